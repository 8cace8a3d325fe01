set_option maxHeartbeats 4000000 in
set_option maxRecDepth 100000 in
theorem kt_X11_isDirectory {N : Nat} {l : Launch} {D : va_G} {a : Nat → Nat} {cI : Nat → ClassId} (hD : ∀ σ, va_D (am_A a) (am_W a cI σ)) {o1 : Int32} {u σ0 : q_St} {r0 : Int32} (hF : fX11_isDirectory N o1 u = some (r0, σ0)) : Met l yX11_isDirectory (Cond.code yX11_isDirectory cX11_isDirectory 2 (some .boolean) :: q_T) ({ frames := 0, cells := 0, slots := 0, locals := 0 } : Room) (q_P D vwCl (am_T cI) (am_W a cI) [.ref (a 0), .int o1] u) (q_Qi D vwCl (am_W a cI) (am_A a) r0 σ0) 0 0 (am_A a) := by
  refine Met.ofW (cc := cX11_isDirectory) (maxL := 2) (ret := (some .boolean)) (by decide) rfl ?_
  intro p e s m args below meth c s₁ B hml hv
  obtain ⟨rfl, hP, hK⟩ := hv
  have hx := B.exec
  have hb := B.bytes
  have hr := B.returns
  have hts := q_ts (atoms_spec (ws := Cond.code yX11_isDirectory cX11_isDirectory 2 (some .boolean) :: q_T) B.pre)
  have hown : s.vm.findClass RX11 = some m.cls := findClass_of_methodNamed B.named
  have hlocks := B.notSynchronized
  have hS : va_S (am_A a) s.heap s.heap [] := va_S.rf
  have hl := lv_entry ([.ref (a 0), .int o1]) (n := 2) (Nat.le_of_ble_eq_true rfl)
  rw [lg_entry_eq]
  generalize (lg_sl ([.ref (a 0), .int o1]) ++ List.replicate (2 - (lg_sl ([.ref (a 0), .int o1])).length) Slot.unset).toArray = ls at hl ⊢
  have hl : lv_has ls 2 [(0, .ref (a 0)), (1, .int o1)] := hl
  unfold fX11_isDirectory at hF
  refine lv_iload_n hx hb dX11_isDirectory_0 rfl (lv_at hl 1 rfl) ?_
  refine sx_if_lt (tgt := 24) hx hb hF dX11_isDirectory_1 (by decide) (fun hF => ?_) (fun hF => ?_)
  · refine lv_iconst (v := 0) hx hb dX11_isDirectory_24 (by decide) ?_
    exact sx_retz (Wd := (am_W a cI)) (σ := u) hx hb hr (by decide) hF hP hS hlocks dX11_isDirectory_25
  · refine lv_iload_n hx hb dX11_isDirectory_4 rfl (lv_at hl 1 rfl) ?_
    refine lv_bipush (v := 64) hx hb dX11_isDirectory_5 (by decide) ?_
    refine sx_icmp_ge (tgt := 24) hx hb hF dX11_isDirectory_7 (by decide) (fun hF => ?_) (fun hF => ?_)
    · refine lv_iconst (v := 0) hx hb dX11_isDirectory_24 (by decide) ?_
      exact sx_retz (Wd := (am_W a cI)) (σ := u) hx hb hr (by decide) hF hP hS hlocks dX11_isDirectory_25
    · refine lv_aload_n hx hb dX11_isDirectory_10 rfl (lv_at hl 0 rfl) ?_
      refine gm_m_kind hx hb hts hown hK hP fl_X11_40 dX11_isDirectory_11 ?_
      refine lv_iload_n hx hb dX11_isDirectory_14 rfl (lv_at hl 1 rfl) ?_
      refine lm_m_kind hx hb hK hP hF dX11_isDirectory_15 (fun v1 hF => ?_)
      refine lv_iconst (v := 2) hx hb dX11_isDirectory_16 (by decide) ?_
      refine sx_icmp_ne (tgt := 24) hx hb hF dX11_isDirectory_17 (by decide) (fun hF => ?_) (fun hF => ?_)
      · refine lv_iconst (v := 0) hx hb dX11_isDirectory_24 (by decide) ?_
        exact sx_retz (Wd := (am_W a cI)) (σ := u) hx hb hr (by decide) hF hP hS hlocks dX11_isDirectory_25
      · refine lv_iconst (v := 1) hx hb dX11_isDirectory_20 (by decide) ?_
        refine lv_goto (tgt := 25) hx hb dX11_isDirectory_21 (by decide) ?_
        exact sx_retz (Wd := (am_W a cI)) (σ := u) hx hb hr (by decide) hF hP hS hlocks dX11_isDirectory_25
set_option maxHeartbeats 4000000 in
set_option maxRecDepth 100000 in
theorem kt_X11_letter {N : Nat} {l : Launch} {D : va_G} {a : Nat → Nat} {cI : Nat → ClassId} (hD : ∀ σ, va_D (am_A a) (am_W a cI σ)) {o0 : Int64} {o2 : Int32} {u σ0 : q_St} {r0 : Int32} (hF : fX11_letter N o0 o2 u = some (r0, σ0)) : Met l yX11_letter (Cond.code yX11_letter cX11_letter 3 (some .int) :: q_T) ({ frames := 0, cells := 0, slots := 0, locals := 0 } : Room) (q_P D vwCl (am_T cI) (am_W a cI) [.long o0, .int o2] u) (q_Qi D vwCl (am_W a cI) (am_A a) r0 σ0) 0 0 (am_A a) := by
  refine Met.ofW (cc := cX11_letter) (maxL := 3) (ret := (some .int)) (by decide) rfl ?_
  intro p e s m args below meth c s₁ B hml hv
  obtain ⟨rfl, hP, hK⟩ := hv
  have hx := B.exec
  have hb := B.bytes
  have hr := B.returns
  have hts := q_ts (atoms_spec (ws := Cond.code yX11_letter cX11_letter 3 (some .int) :: q_T) B.pre)
  have hown : s.vm.findClass RX11 = some m.cls := findClass_of_methodNamed B.named
  have hlocks := B.notSynchronized
  have hS : va_S (am_A a) s.heap s.heap [] := va_S.rf
  have hl := lv_entry ([.long o0, .int o2]) (n := 3) (Nat.le_of_ble_eq_true rfl)
  rw [lg_entry_eq]
  generalize (lg_sl ([.long o0, .int o2]) ++ List.replicate (3 - (lg_sl ([.long o0, .int o2])).length) Slot.unset).toArray = ls at hl ⊢
  have hl : lv_has ls 3 [(0, .long o0), (2, .int o2)] := hl
  unfold fX11_letter at hF
  refine lv_iload_n hx hb dX11_letter_0 rfl (lv_at hl 1 rfl) ?_
  refine lv_bipush (v := 7) hx hb dX11_letter_1 (by decide) ?_
  refine sx_icmp_le (tgt := 10) hx hb hF dX11_letter_3 (by decide) (fun hF => ?_) (fun hF => ?_)
  · refine lv_lload_n hx hb dX11_letter_10 rfl (lv_at hl 0 rfl) ?_
    refine lv_bipush (v := 8) hx hb dX11_letter_11 (by decide) ?_
    refine lv_iload_n hx hb dX11_letter_13 rfl (lv_at hl 1 rfl) ?_
    refine lv_imul hx hb dX11_letter_14 ?_
    refine lv_lshr (v := q_lshr o0 (8 * o2)) hx hb dX11_letter_15 rfl ?_
    refine lv_ldc2 (v := 255) hx hb hown (hts _ kc_X11_306) dX11_letter_16 ?_
    refine lv_land hx hb dX11_letter_19 ?_
    refine lv_l2i (v := Int64.toInt32 ((q_lshr o0 (8 * o2)) &&& 255)) hx hb dX11_letter_20 rfl ?_
    exact sx_reti (Wd := (am_W a cI)) (σ := u) hx hb hr hF hP hS hlocks dX11_letter_21
  · refine lv_iconst (v := 0) hx hb dX11_letter_6 (by decide) ?_
    refine lv_goto (tgt := 21) hx hb dX11_letter_7 (by decide) ?_
    exact sx_reti (Wd := (am_W a cI)) (σ := u) hx hb hr hF hP hS hlocks dX11_letter_21
set_option maxHeartbeats 4000000 in
set_option maxRecDepth 100000 in
theorem kt_X11_isLetter {N : Nat} {l : Launch} {D : va_G} {a : Nat → Nat} {cI : Nat → ClassId} (hD : ∀ σ, va_D (am_A a) (am_W a cI σ)) {o0 : Int32} {u σ0 : q_St} {r0 : Int32} (hF : fX11_isLetter N o0 u = some (r0, σ0)) : Met l yX11_isLetter (Cond.code yX11_isLetter cX11_isLetter 1 (some .boolean) :: q_T) ({ frames := 0, cells := 0, slots := 0, locals := 0 } : Room) (q_P D vwCl (am_T cI) (am_W a cI) [.int o0] u) (q_Qi D vwCl (am_W a cI) (am_A a) r0 σ0) 0 0 (am_A a) := by
  refine Met.ofW (cc := cX11_isLetter) (maxL := 1) (ret := (some .boolean)) (by decide) rfl ?_
  intro p e s m args below meth c s₁ B hml hv
  obtain ⟨rfl, hP, hK⟩ := hv
  have hx := B.exec
  have hb := B.bytes
  have hr := B.returns
  have hts := q_ts (atoms_spec (ws := Cond.code yX11_isLetter cX11_isLetter 1 (some .boolean) :: q_T) B.pre)
  have hown : s.vm.findClass RX11 = some m.cls := findClass_of_methodNamed B.named
  have hlocks := B.notSynchronized
  have hS : va_S (am_A a) s.heap s.heap [] := va_S.rf
  have hl := lv_entry ([.int o0]) (n := 1) (Nat.le_of_ble_eq_true rfl)
  rw [lg_entry_eq]
  generalize (lg_sl ([.int o0]) ++ List.replicate (1 - (lg_sl ([.int o0])).length) Slot.unset).toArray = ls at hl ⊢
  have hl : lv_has ls 1 [(0, .int o0)] := hl
  have hB42 : ∀ (u : q_St) (ls : Array Slot), lv_has ls 1 [] → fX11_isLetter_b42 N u = some (r0, σ0) → ∀ (H : Heap) (locs : List Loc), va_P D vwCl (am_W a cI u) H → va_S (am_A a) s.heap H locs → W p l e (headSpec (Cond.code yX11_isLetter cX11_isLetter 1 (some .boolean) :: q_T) ({ frames := 0, cells := 0, slots := 0, locals := 0 } : Room)).room s m ([.int o0] : List Value).toArray below meth c H locs 0 0 (MQ below (q_Qi D vwCl (am_W a cI) (am_A a) r0 σ0) ([.int o0] : List Value).toArray s 0 0 (am_A a)) (F0 m 42 ls []) := by
    intro u ls hl hF _ _ hP hS
    unfold fX11_isLetter_b42 at hF
    refine lv_iconst (v := 1) hx hb dX11_isLetter_42 (by decide) ?_
    refine lv_goto (tgt := 47) hx hb dX11_isLetter_43 (by decide) ?_
    exact sx_retz (Wd := (am_W a cI)) (σ := u) hx hb hr (by decide) hF hP hS hlocks dX11_isLetter_47
  have hB24 : ∀ (x0 : Int32) (u : q_St) (ls : Array Slot), lv_has ls 1 [(0, .int x0)] → fX11_isLetter_b24 N x0 u = some (r0, σ0) → ∀ (H : Heap) (locs : List Loc), va_P D vwCl (am_W a cI u) H → va_S (am_A a) s.heap H locs → W p l e (headSpec (Cond.code yX11_isLetter cX11_isLetter 1 (some .boolean) :: q_T) ({ frames := 0, cells := 0, slots := 0, locals := 0 } : Room)).room s m ([.int o0] : List Value).toArray below meth c H locs 0 0 (MQ below (q_Qi D vwCl (am_W a cI) (am_A a) r0 σ0) ([.int o0] : List Value).toArray s 0 0 (am_A a)) (F0 m 24 ls []) := by
    intro x0 u ls hl hF _ _ hP hS
    unfold fX11_isLetter_b24 at hF
    refine lv_iload_n hx hb dX11_isLetter_24 rfl (lv_at hl 0 rfl) ?_
    refine lv_bipush (v := 45) hx hb dX11_isLetter_25 (by decide) ?_
    refine sx_icmp_eq (tgt := 42) hx hb hF dX11_isLetter_27 (by decide) (fun hF => ?_) (fun hF => ?_)
    · exact hB42 u ls (lv_sub hl [] rfl) hF _ _ hP hS
    · refine lv_iload_n hx hb dX11_isLetter_30 rfl (lv_at hl 0 rfl) ?_
      refine lv_bipush (v := 95) hx hb dX11_isLetter_31 (by decide) ?_
      refine sx_icmp_eq (tgt := 42) hx hb hF dX11_isLetter_33 (by decide) (fun hF => ?_) (fun hF => ?_)
      · exact hB42 u ls (lv_sub hl [] rfl) hF _ _ hP hS
      · refine lv_iload_n hx hb dX11_isLetter_36 rfl (lv_at hl 0 rfl) ?_
        refine lv_bipush (v := 46) hx hb dX11_isLetter_37 (by decide) ?_
        refine sx_icmp_ne (tgt := 46) hx hb hF dX11_isLetter_39 (by decide) (fun hF => ?_) (fun hF => ?_)
        · refine lv_iconst (v := 0) hx hb dX11_isLetter_46 (by decide) ?_
          exact sx_retz (Wd := (am_W a cI)) (σ := u) hx hb hr (by decide) hF hP hS hlocks dX11_isLetter_47
        · exact hB42 u ls (lv_sub hl [] rfl) hF _ _ hP hS
  have hB12 : ∀ (x0 : Int32) (u : q_St) (ls : Array Slot), lv_has ls 1 [(0, .int x0)] → fX11_isLetter_b12 N x0 u = some (r0, σ0) → ∀ (H : Heap) (locs : List Loc), va_P D vwCl (am_W a cI u) H → va_S (am_A a) s.heap H locs → W p l e (headSpec (Cond.code yX11_isLetter cX11_isLetter 1 (some .boolean) :: q_T) ({ frames := 0, cells := 0, slots := 0, locals := 0 } : Room)).room s m ([.int o0] : List Value).toArray below meth c H locs 0 0 (MQ below (q_Qi D vwCl (am_W a cI) (am_A a) r0 σ0) ([.int o0] : List Value).toArray s 0 0 (am_A a)) (F0 m 12 ls []) := by
    intro x0 u ls hl hF _ _ hP hS
    unfold fX11_isLetter_b12 at hF
    refine lv_iload_n hx hb dX11_isLetter_12 rfl (lv_at hl 0 rfl) ?_
    refine lv_bipush (v := 48) hx hb dX11_isLetter_13 (by decide) ?_
    refine sx_icmp_lt (tgt := 24) hx hb hF dX11_isLetter_15 (by decide) (fun hF => ?_) (fun hF => ?_)
    · exact hB24 x0 u ls (lv_sub hl [0] rfl) hF _ _ hP hS
    · refine lv_iload_n hx hb dX11_isLetter_18 rfl (lv_at hl 0 rfl) ?_
      refine lv_bipush (v := 57) hx hb dX11_isLetter_19 (by decide) ?_
      refine sx_icmp_le (tgt := 42) hx hb hF dX11_isLetter_21 (by decide) (fun hF => ?_) (fun hF => ?_)
      · exact hB42 u ls (lv_sub hl [] rfl) hF _ _ hP hS
      · exact hB24 x0 u ls (lv_sub hl [0] rfl) hF _ _ hP hS
  unfold fX11_isLetter at hF
  refine lv_iload_n hx hb dX11_isLetter_0 rfl (lv_at hl 0 rfl) ?_
  refine lv_bipush (v := 97) hx hb dX11_isLetter_1 (by decide) ?_
  refine sx_icmp_lt (tgt := 12) hx hb hF dX11_isLetter_3 (by decide) (fun hF => ?_) (fun hF => ?_)
  · exact hB12 o0 u ls (lv_sub hl [0] rfl) hF _ _ hP hS
  · refine lv_iload_n hx hb dX11_isLetter_6 rfl (lv_at hl 0 rfl) ?_
    refine lv_bipush (v := 122) hx hb dX11_isLetter_7 (by decide) ?_
    refine sx_icmp_le (tgt := 42) hx hb hF dX11_isLetter_9 (by decide) (fun hF => ?_) (fun hF => ?_)
    · exact hB42 u ls (lv_sub hl [] rfl) hF _ _ hP hS
    · exact hB12 o0 u ls (lv_sub hl [0] rfl) hF _ _ hP hS
set_option maxHeartbeats 4000000 in
set_option maxRecDepth 100000 in
theorem kt_X11_isName {N : Nat} {l : Launch} {D : va_G} {a : Nat → Nat} {cI : Nat → ClassId} (hD : ∀ σ, va_D (am_A a) (am_W a cI σ)) {o0 : Int64} {u σ0 : q_St} {r0 : Int32} (hF : fX11_isName N o0 u = some (r0, σ0)) : Met l yX11_isName (Cond.code yX11_isName cX11_isName 4 (some .boolean) :: q_T) ({ frames := 1, cells := 0, slots := 0, locals := 22 } : Room) (q_P D vwCl (am_T cI) (am_W a cI) [.long o0] u) (q_Qi D vwCl (am_W a cI) (am_A a) r0 σ0) 0 0 (am_A a) := by
  refine Met.ofW (cc := cX11_isName) (maxL := 4) (ret := (some .boolean)) (by decide) rfl ?_
  intro p e s m args below meth c s₁ B hml hv
  obtain ⟨rfl, hP, hK⟩ := hv
  have hx := B.exec
  have hb := B.bytes
  have hr := B.returns
  have hts := q_ts (atoms_spec (ws := Cond.code yX11_isName cX11_isName 4 (some .boolean) :: q_T) B.pre)
  have hown : s.vm.findClass RX11 = some m.cls := findClass_of_methodNamed B.named
  have hlocks := B.notSynchronized
  have hS : va_S (am_A a) s.heap s.heap [] := va_S.rf
  have hl := lv_entry ([.long o0]) (n := 4) (Nat.le_of_ble_eq_true rfl)
  rw [lg_entry_eq]
  generalize (lg_sl ([.long o0]) ++ List.replicate (4 - (lg_sl ([.long o0])).length) Slot.unset).toArray = ls at hl ⊢
  have hl : lv_has ls 4 [(0, .long o0)] := hl
  have hB27 : ∀ (n : Nat) (x0 : Int64) (x2 : Int32) (x3 : Int32) (u : q_St) (ls : Array Slot), lv_has ls 4 [(0, .long x0), (2, .int x2), (3, .int x3)] → q_lp (fX11_isName_b27 N) (fun _ _ _ _ => none) n x0 x2 x3 u = some (r0, σ0) → ∀ (H : Heap) (locs : List Loc), va_P D vwCl (am_W a cI u) H → va_S (am_A a) s.heap H locs → W p l e (headSpec (Cond.code yX11_isName cX11_isName 4 (some .boolean) :: q_T) ({ frames := 1, cells := 0, slots := 0, locals := 22 } : Room)).room s m ([.long o0] : List Value).toArray below meth c H locs 0 0 (MQ below (q_Qi D vwCl (am_W a cI) (am_A a) r0 σ0) ([.long o0] : List Value).toArray s 0 0 (am_A a)) (F0 m 27 ls []) := by
    intro n
    induction n with
    | zero => intro x0 x2 x3 u ls hl hF; exact absurd (show (none : Option (Int32 × q_St)) = some _ from hF) (fun h => nomatch h)
    | succ n hi27 =>
      intro x0 x2 x3 u ls hl hF _ _ hP hS
      obtain ⟨ih27, hih⟩ : ∃ q, q = q_lp (fX11_isName_b27 N) (fun _ _ _ _ => none) n := ⟨_, rfl⟩
      rw [← hih] at hi27
      have hF : fX11_isName_b27 N (q_lp (fX11_isName_b27 N) (fun _ _ _ _ => none) n) x0 x2 x3 u = some (r0, σ0) := hF
      rw [← hih] at hF
      clear hih
      unfold fX11_isName_b27 at hF
      refine lv_iload_n hx hb dX11_isName_27 rfl (lv_at hl 2 rfl) ?_
      refine lv_bipush (v := 8) hx hb dX11_isName_28 (by decide) ?_
      refine sx_icmp_ge (tgt := 49) hx hb hF dX11_isName_30 (by decide) (fun hF => ?_) (fun hF => ?_)
      · refine lv_iload_n hx hb dX11_isName_49 rfl (lv_at hl 1 rfl) ?_
        refine sx_if_le (tgt := 57) hx hb hF dX11_isName_50 (by decide) (fun hF => ?_) (fun hF => ?_)
        · refine lv_iconst (v := 0) hx hb dX11_isName_57 (by decide) ?_
          exact sx_retz (Wd := (am_W a cI)) (σ := u) hx hb hr (by decide) hF hP hS hlocks dX11_isName_58
        · refine lv_iconst (v := 1) hx hb dX11_isName_53 (by decide) ?_
          refine lv_goto (tgt := 58) hx hb dX11_isName_54 (by decide) ?_
          exact sx_retz (Wd := (am_W a cI)) (σ := u) hx hb hr (by decide) hF hP hS hlocks dX11_isName_58
      · refine lv_lload_n hx hb dX11_isName_33 rfl (lv_at hl 0 rfl) ?_
        refine lv_iload_n hx hb dX11_isName_34 rfl (lv_at hl 2 rfl) ?_
        obtain ⟨r1, u2, hc3, hF⟩ := q_bnd_some hF
        refine sx_ci (Wd := (am_W a cI)) (σ1 := u2) (q_runS (Wd := (am_W a cI)) (σ := u) (As := [.long x0, .int x3]) (rest := []) hx hb hml hown hts hK hP (kt_X11_letter hD hc3) cw_X11_308 rfl rfl ⟨Nat.le_of_ble_eq_true rfl, Nat.le_of_ble_eq_true rfl⟩ rfl hl.1 rfl (Nat.le_of_ble_eq_true rfl) dX11_isName_35) hS (fun H locs hP hS => ?_)
        refine sx_if_eq (tgt := 43) hx hb hF dX11_isName_38 (by decide) (fun hF => ?_) (fun hF => ?_)
        · refine sx_iinc (d := 1) (k := 2) (lv2 := [(0, .long x0), (2, .int x2)]) hx hb hF dX11_isName_43 hl rfl (by decide) (by decide) rfl (fun v4 hF ls hl => ?_)
          refine lv_goto (tgt := 27) hx hb dX11_isName_46 (by decide) ?_
          exact hi27 x0 x2 v4 u2 ls (lv_sub hl [1, 2, 0] rfl) hF _ _ hP hS
        · refine lv_iconst (v := 0) hx hb dX11_isName_41 (by decide) ?_
          exact sx_retz (Wd := (am_W a cI)) (σ := u2) hx hb hr (by decide) hF hP hS hlocks dX11_isName_42
  have hB25 : ∀ (x0 : Int64) (x2 : Int32) (u : q_St) (ls : Array Slot), lv_has ls 4 [(0, .long x0), (2, .int x2)] → fX11_isName_b25 N x0 x2 u = some (r0, σ0) → ∀ (H : Heap) (locs : List Loc), va_P D vwCl (am_W a cI u) H → va_S (am_A a) s.heap H locs → W p l e (headSpec (Cond.code yX11_isName cX11_isName 4 (some .boolean) :: q_T) ({ frames := 1, cells := 0, slots := 0, locals := 22 } : Room)).room s m ([.long o0] : List Value).toArray below meth c H locs 0 0 (MQ below (q_Qi D vwCl (am_W a cI) (am_A a) r0 σ0) ([.long o0] : List Value).toArray s 0 0 (am_A a)) (F0 m 25 ls []) := by
    intro x0 x2 u ls hl hF _ _ hP hS
    unfold fX11_isName_b25 at hF
    refine lv_iload_n hx hb dX11_isName_25 rfl (lv_at hl 1 rfl) ?_
    refine lv_istore_n (lv' := [(3, .int x2), (0, .long x0), (2, .int x2)]) hx hb dX11_isName_26 rfl hl (by decide) rfl (fun ls hl => ?_)
    exact hB27 N x0 x2 x2 u ls (lv_sub hl [1, 2, 0] rfl) hF _ _ hP hS
  have hB2 : ∀ (n : Nat) (x0 : Int64) (x2 : Int32) (u : q_St) (ls : Array Slot), lv_has ls 4 [(0, .long x0), (2, .int x2)] → q_lp (fX11_isName_b2 N) (fun _ _ _ => none) n x0 x2 u = some (r0, σ0) → ∀ (H : Heap) (locs : List Loc), va_P D vwCl (am_W a cI u) H → va_S (am_A a) s.heap H locs → W p l e (headSpec (Cond.code yX11_isName cX11_isName 4 (some .boolean) :: q_T) ({ frames := 1, cells := 0, slots := 0, locals := 22 } : Room)).room s m ([.long o0] : List Value).toArray below meth c H locs 0 0 (MQ below (q_Qi D vwCl (am_W a cI) (am_A a) r0 σ0) ([.long o0] : List Value).toArray s 0 0 (am_A a)) (F0 m 2 ls []) := by
    intro n
    induction n with
    | zero => intro x0 x2 u ls hl hF; exact absurd (show (none : Option (Int32 × q_St)) = some _ from hF) (fun h => nomatch h)
    | succ n hi2 =>
      intro x0 x2 u ls hl hF _ _ hP hS
      obtain ⟨ih2, hih⟩ : ∃ q, q = q_lp (fX11_isName_b2 N) (fun _ _ _ => none) n := ⟨_, rfl⟩
      rw [← hih] at hi2
      have hF : fX11_isName_b2 N (q_lp (fX11_isName_b2 N) (fun _ _ _ => none) n) x0 x2 u = some (r0, σ0) := hF
      rw [← hih] at hF
      clear hih
      unfold fX11_isName_b2 at hF
      refine lv_iload_n hx hb dX11_isName_2 rfl (lv_at hl 1 rfl) ?_
      refine lv_bipush (v := 8) hx hb dX11_isName_3 (by decide) ?_
      refine sx_icmp_ge (tgt := 25) hx hb hF dX11_isName_5 (by decide) (fun hF => ?_) (fun hF => ?_)
      · exact hB25 x0 x2 u ls (lv_sub hl [0, 1] rfl) hF _ _ hP hS
      · refine lv_lload_n hx hb dX11_isName_8 rfl (lv_at hl 0 rfl) ?_
        refine lv_iload_n hx hb dX11_isName_9 rfl (lv_at hl 1 rfl) ?_
        obtain ⟨r5, u6, hc7, hF⟩ := q_bnd_some hF
        refine sx_ci (Wd := (am_W a cI)) (σ1 := u6) (q_runS (Wd := (am_W a cI)) (σ := u) (As := [.long x0, .int x2]) (rest := []) hx hb hml hown hts hK hP (kt_X11_letter hD hc7) cw_X11_308 rfl rfl ⟨Nat.le_of_ble_eq_true rfl, Nat.le_of_ble_eq_true rfl⟩ rfl hl.1 rfl (Nat.le_of_ble_eq_true rfl) dX11_isName_10) hS (fun H locs hP hS => ?_)
        obtain ⟨r8, u9, hc10, hF⟩ := q_bnd_some hF
        refine sx_ci (Wd := (am_W a cI)) (σ1 := u9) (q_runS (Wd := (am_W a cI)) (σ := u6) (As := [.int r5]) (rest := []) hx hb hml hown hts hK hP (kt_X11_isLetter hD hc10) cw_X11_312 rfl rfl ⟨Nat.le_of_ble_eq_true rfl, Nat.le_of_ble_eq_true rfl⟩ rfl hl.1 rfl (Nat.le_of_ble_eq_true rfl) dX11_isName_13) hS (fun H locs hP hS => ?_)
        refine sx_if_eq (tgt := 25) hx hb hF dX11_isName_16 (by decide) (fun hF => ?_) (fun hF => ?_)
        · exact hB25 x0 x2 u9 ls (lv_sub hl [0, 1] rfl) hF _ _ hP hS
        · refine sx_iinc (d := 1) (k := 1) (lv2 := [(0, .long x0)]) hx hb hF dX11_isName_19 hl rfl (by decide) (by decide) rfl (fun v11 hF ls hl => ?_)
          refine lv_goto (tgt := 2) hx hb dX11_isName_22 (by decide) ?_
          exact hi2 x0 v11 u9 ls (lv_sub hl [1, 0] rfl) hF _ _ hP hS
  unfold fX11_isName at hF
  refine lv_iconst (v := 0) hx hb dX11_isName_0 (by decide) ?_
  refine lv_istore_n (lv' := [(2, .int 0), (0, .long o0)]) hx hb dX11_isName_1 rfl hl (by decide) rfl (fun ls hl => ?_)
  exact hB2 N o0 0 u ls (lv_sub hl [1, 0] rfl) hF _ _ hP hS
set_option maxHeartbeats 4000000 in
set_option maxRecDepth 100000 in
theorem kt_X11_may {N : Nat} {l : Launch} {D : va_G} {a : Nat → Nat} {cI : Nat → ClassId} (hD : ∀ σ, va_D (am_A a) (am_W a cI σ)) {o1 : Int32} {o2 : Int32} {u σ0 : q_St} {r0 : Int32} (hF : fX11_may N o1 o2 u = some (r0, σ0)) : Met l yX11_may (Cond.code yX11_may cX11_may 4 (some .boolean) :: q_T) ({ frames := 0, cells := 0, slots := 0, locals := 0 } : Room) (q_P D vwCl (am_T cI) (am_W a cI) [.ref (a 0), .int o1, .int o2] u) (q_Qi D vwCl (am_W a cI) (am_A a) r0 σ0) 0 0 (am_A a) := by
  refine Met.ofW (cc := cX11_may) (maxL := 4) (ret := (some .boolean)) (by decide) rfl ?_
  intro p e s m args below meth c s₁ B hml hv
  obtain ⟨rfl, hP, hK⟩ := hv
  have hx := B.exec
  have hb := B.bytes
  have hr := B.returns
  have hts := q_ts (atoms_spec (ws := Cond.code yX11_may cX11_may 4 (some .boolean) :: q_T) B.pre)
  have hown : s.vm.findClass RX11 = some m.cls := findClass_of_methodNamed B.named
  have hlocks := B.notSynchronized
  have hS : va_S (am_A a) s.heap s.heap [] := va_S.rf
  have hl := lv_entry ([.ref (a 0), .int o1, .int o2]) (n := 4) (Nat.le_of_ble_eq_true rfl)
  rw [lg_entry_eq]
  generalize (lg_sl ([.ref (a 0), .int o1, .int o2]) ++ List.replicate (4 - (lg_sl ([.ref (a 0), .int o1, .int o2])).length) Slot.unset).toArray = ls at hl ⊢
  have hl : lv_has ls 4 [(0, .ref (a 0)), (1, .int o1), (2, .int o2)] := hl
  have hB39 : ∀ (x2 : Int32) (y0 : Int32) (u : q_St) (ls : Array Slot), lv_has ls 4 [(2, .int x2)] → fX11_may_b39 N x2 y0 u = some (r0, σ0) → ∀ (H : Heap) (locs : List Loc), va_P D vwCl (am_W a cI u) H → va_S (am_A a) s.heap H locs → W p l e (headSpec (Cond.code yX11_may cX11_may 4 (some .boolean) :: q_T) ({ frames := 0, cells := 0, slots := 0, locals := 0 } : Room)).room s m ([.ref (a 0), .int o1, .int o2] : List Value).toArray below meth c H locs 0 0 (MQ below (q_Qi D vwCl (am_W a cI) (am_A a) r0 σ0) ([.ref (a 0), .int o1, .int o2] : List Value).toArray s 0 0 (am_A a)) (F0 m 39 ls [.int y0]) := by
    intro x2 y0 u ls hl hF _ _ hP hS
    unfold fX11_may_b39 at hF
    refine lv_istore_n (lv' := [(3, .int y0), (2, .int x2)]) hx hb dX11_may_39 rfl hl (by decide) rfl (fun ls hl => ?_)
    refine lv_iload_n hx hb dX11_may_40 rfl (lv_at hl 0 rfl) ?_
    refine lv_iload_n hx hb dX11_may_41 rfl (lv_at hl 1 rfl) ?_
    refine lv_iand hx hb dX11_may_42 ?_
    refine lv_iload_n hx hb dX11_may_43 rfl (lv_at hl 1 rfl) ?_
    refine sx_icmp_ne (tgt := 51) hx hb hF dX11_may_44 (by decide) (fun hF => ?_) (fun hF => ?_)
    · refine lv_iconst (v := 0) hx hb dX11_may_51 (by decide) ?_
      exact sx_retz (Wd := (am_W a cI)) (σ := u) hx hb hr (by decide) hF hP hS hlocks dX11_may_52
    · refine lv_iconst (v := 1) hx hb dX11_may_47 (by decide) ?_
      refine lv_goto (tgt := 52) hx hb dX11_may_48 (by decide) ?_
      exact sx_retz (Wd := (am_W a cI)) (σ := u) hx hb hr (by decide) hF hP hS hlocks dX11_may_52
  unfold fX11_may at hF
  refine lv_aload_n hx hb dX11_may_0 rfl (lv_at hl 0 rfl) ?_
  refine gm_m_who hx hb hts hown hK hP fl_X11_330 dX11_may_1 ?_
  refine sx_if_ne (tgt := 9) hx hb hF dX11_may_4 (by decide) (fun hF => ?_) (fun hF => ?_)
  · refine lv_aload_n hx hb dX11_may_9 rfl (lv_at hl 0 rfl) ?_
    refine gm_m_owner hx hb hts hown hK hP fl_X11_59 dX11_may_10 ?_
    refine lv_iload_n hx hb dX11_may_13 rfl (lv_at hl 1 rfl) ?_
    refine lm_m_owner hx hb hK hP hF dX11_may_14 (fun v1 hF => ?_)
    refine lv_aload_n hx hb dX11_may_15 rfl (lv_at hl 0 rfl) ?_
    refine gm_m_who hx hb hts hown hK hP fl_X11_330 dX11_may_16 ?_
    refine sx_icmp_ne (tgt := 33) hx hb hF dX11_may_19 (by decide) (fun hF => ?_) (fun hF => ?_)
    · refine lv_aload_n hx hb dX11_may_33 rfl (lv_at hl 0 rfl) ?_
      refine gm_m_bits hx hb hts hown hK hP fl_X11_62 dX11_may_34 ?_
      refine lv_iload_n hx hb dX11_may_37 rfl (lv_at hl 1 rfl) ?_
      refine lm_m_bits hx hb hK hP hF dX11_may_38 (fun v2 hF => ?_)
      exact hB39 o2 v2 u ls (lv_sub hl [2] rfl) hF _ _ hP hS
    · refine lv_aload_n hx hb dX11_may_22 rfl (lv_at hl 0 rfl) ?_
      refine gm_m_bits hx hb hts hown hK hP fl_X11_62 dX11_may_23 ?_
      refine lv_iload_n hx hb dX11_may_26 rfl (lv_at hl 1 rfl) ?_
      refine lm_m_bits hx hb hK hP hF dX11_may_27 (fun v3 hF => ?_)
      refine lv_iconst (v := 3) hx hb dX11_may_28 (by decide) ?_
      refine lv_ishr hx hb dX11_may_29 ?_
      refine lv_goto (tgt := 39) hx hb dX11_may_30 (by decide) ?_
      exact hB39 o2 (v3 >>> (3 &&& 31)) u ls (lv_sub hl [2] rfl) hF _ _ hP hS
  · refine lv_iconst (v := 1) hx hb dX11_may_7 (by decide) ?_
    exact sx_retz (Wd := (am_W a cI)) (σ := u) hx hb hr (by decide) hF hP hS hlocks dX11_may_8
set_option maxHeartbeats 4000000 in
set_option maxRecDepth 100000 in
theorem kt_X11_slots {N : Nat} {l : Launch} {D : va_G} {a : Nat → Nat} {cI : Nat → ClassId} (hD : ∀ σ, va_D (am_A a) (am_W a cI σ)) {o1 : Int32} {u σ0 : q_St} {r0 : Int32} (hF : fX11_slots N o1 u = some (r0, σ0)) : Met l yX11_slots (Cond.code yX11_slots cX11_slots 2 (some .int) :: q_T) ({ frames := 0, cells := 0, slots := 0, locals := 0 } : Room) (q_P D vwCl (am_T cI) (am_W a cI) [.ref (a 0), .int o1] u) (q_Qi D vwCl (am_W a cI) (am_A a) r0 σ0) 0 0 (am_A a) := by
  refine Met.ofW (cc := cX11_slots) (maxL := 2) (ret := (some .int)) (by decide) rfl ?_
  intro p e s m args below meth c s₁ B hml hv
  obtain ⟨rfl, hP, hK⟩ := hv
  have hx := B.exec
  have hb := B.bytes
  have hr := B.returns
  have hts := q_ts (atoms_spec (ws := Cond.code yX11_slots cX11_slots 2 (some .int) :: q_T) B.pre)
  have hown : s.vm.findClass RX11 = some m.cls := findClass_of_methodNamed B.named
  have hlocks := B.notSynchronized
  have hS : va_S (am_A a) s.heap s.heap [] := va_S.rf
  have hl := lv_entry ([.ref (a 0), .int o1]) (n := 2) (Nat.le_of_ble_eq_true rfl)
  rw [lg_entry_eq]
  generalize (lg_sl ([.ref (a 0), .int o1]) ++ List.replicate (2 - (lg_sl ([.ref (a 0), .int o1])).length) Slot.unset).toArray = ls at hl ⊢
  have hl : lv_has ls 2 [(0, .ref (a 0)), (1, .int o1)] := hl
  unfold fX11_slots at hF
  refine lv_iconst (v := 4) hx hb dX11_slots_0 (by decide) ?_
  refine lv_aload_n hx hb dX11_slots_1 rfl (lv_at hl 0 rfl) ?_
  refine gm_m_many hx hb hts hown hK hP fl_X11_49 dX11_slots_2 ?_
  refine lv_iload_n hx hb dX11_slots_5 rfl (lv_at hl 1 rfl) ?_
  refine lm_m_many hx hb hK hP hF dX11_slots_6 (fun v1 hF => ?_)
  refine lv_imul hx hb dX11_slots_7 ?_
  exact sx_reti (Wd := (am_W a cI)) (σ := u) hx hb hr hF hP hS hlocks dX11_slots_8
set_option maxHeartbeats 4000000 in
set_option maxRecDepth 100000 in
theorem kt_X11_slotOf {N : Nat} {l : Launch} {D : va_G} {a : Nat → Nat} {cI : Nat → ClassId} (hD : ∀ σ, va_D (am_A a) (am_W a cI σ)) {o1 : Int32} {o2 : Int64} {u σ0 : q_St} {r0 : Int32} (hF : fX11_slotOf N o1 o2 u = some (r0, σ0)) : Met l yX11_slotOf (Cond.code yX11_slotOf cX11_slotOf 5 (some .int) :: q_T) ({ frames := 1, cells := 0, slots := 0, locals := 21 } : Room) (q_P D vwCl (am_T cI) (am_W a cI) [.ref (a 0), .int o1, .long o2] u) (q_Qi D vwCl (am_W a cI) (am_A a) r0 σ0) 0 0 (am_A a) := by
  refine Met.ofW (cc := cX11_slotOf) (maxL := 5) (ret := (some .int)) (by decide) rfl ?_
  intro p e s m args below meth c s₁ B hml hv
  obtain ⟨rfl, hP, hK⟩ := hv
  have hx := B.exec
  have hb := B.bytes
  have hr := B.returns
  have hts := q_ts (atoms_spec (ws := Cond.code yX11_slotOf cX11_slotOf 5 (some .int) :: q_T) B.pre)
  have hown : s.vm.findClass RX11 = some m.cls := findClass_of_methodNamed B.named
  have hlocks := B.notSynchronized
  have hS : va_S (am_A a) s.heap s.heap [] := va_S.rf
  have hl := lv_entry ([.ref (a 0), .int o1, .long o2]) (n := 5) (Nat.le_of_ble_eq_true rfl)
  rw [lg_entry_eq]
  generalize (lg_sl ([.ref (a 0), .int o1, .long o2]) ++ List.replicate (5 - (lg_sl ([.ref (a 0), .int o1, .long o2])).length) Slot.unset).toArray = ls at hl ⊢
  have hl : lv_has ls 5 [(0, .ref (a 0)), (1, .int o1), (2, .long o2)] := hl
  have hB47 : ∀ (ih6 : Int32 → Int64 → Int32 → q_St → Option (Int32 × q_St)) (hi6 : ∀ (x1 : Int32) (x2 : Int64) (x4 : Int32) (u : q_St) (ls : Array Slot), lv_has ls 5 [(0, .ref (a 0)), (1, .int x1), (2, .long x2), (4, .int x4)] → ih6 x1 x2 x4 u = some (r0, σ0) → ∀ (H : Heap) (locs : List Loc), va_P D vwCl (am_W a cI u) H → va_S (am_A a) s.heap H locs → W p l e (headSpec (Cond.code yX11_slotOf cX11_slotOf 5 (some .int) :: q_T) ({ frames := 1, cells := 0, slots := 0, locals := 21 } : Room)).room s m ([.ref (a 0), .int o1, .long o2] : List Value).toArray below meth c H locs 0 0 (MQ below (q_Qi D vwCl (am_W a cI) (am_A a) r0 σ0) ([.ref (a 0), .int o1, .long o2] : List Value).toArray s 0 0 (am_A a)) (F0 m 6 ls [])), ∀ (x1 : Int32) (x2 : Int64) (x4 : Int32) (u : q_St) (ls : Array Slot), lv_has ls 5 [(0, .ref (a 0)), (1, .int x1), (2, .long x2), (4, .int x4)] → fX11_slotOf_b47 N ih6 x1 x2 x4 u = some (r0, σ0) → ∀ (H : Heap) (locs : List Loc), va_P D vwCl (am_W a cI u) H → va_S (am_A a) s.heap H locs → W p l e (headSpec (Cond.code yX11_slotOf cX11_slotOf 5 (some .int) :: q_T) ({ frames := 1, cells := 0, slots := 0, locals := 21 } : Room)).room s m ([.ref (a 0), .int o1, .long o2] : List Value).toArray below meth c H locs 0 0 (MQ below (q_Qi D vwCl (am_W a cI) (am_A a) r0 σ0) ([.ref (a 0), .int o1, .long o2] : List Value).toArray s 0 0 (am_A a)) (F0 m 47 ls []) := by
    intro ih6 hi6 x1 x2 x4 u ls hl hF _ _ hP hS
    unfold fX11_slotOf_b47 at hF
    refine sx_iinc (d := 1) (k := 3) (lv2 := [(0, .ref (a 0)), (1, .int x1), (2, .long x2)]) hx hb hF dX11_slotOf_47 hl rfl (by decide) (by decide) rfl (fun v6 hF ls hl => ?_)
    refine lv_goto (tgt := 6) hx hb dX11_slotOf_50 (by decide) ?_
    exact hi6 x1 x2 v6 u ls (lv_sub hl [1, 2, 3, 0] rfl) hF _ _ hP hS
  have hB6 : ∀ (n : Nat) (x1 : Int32) (x2 : Int64) (x4 : Int32) (u : q_St) (ls : Array Slot), lv_has ls 5 [(0, .ref (a 0)), (1, .int x1), (2, .long x2), (4, .int x4)] → q_lp (fX11_slotOf_b6 N) (fun _ _ _ _ => none) n x1 x2 x4 u = some (r0, σ0) → ∀ (H : Heap) (locs : List Loc), va_P D vwCl (am_W a cI u) H → va_S (am_A a) s.heap H locs → W p l e (headSpec (Cond.code yX11_slotOf cX11_slotOf 5 (some .int) :: q_T) ({ frames := 1, cells := 0, slots := 0, locals := 21 } : Room)).room s m ([.ref (a 0), .int o1, .long o2] : List Value).toArray below meth c H locs 0 0 (MQ below (q_Qi D vwCl (am_W a cI) (am_A a) r0 σ0) ([.ref (a 0), .int o1, .long o2] : List Value).toArray s 0 0 (am_A a)) (F0 m 6 ls []) := by
    intro n
    induction n with
    | zero => intro x1 x2 x4 u ls hl hF; exact absurd (show (none : Option (Int32 × q_St)) = some _ from hF) (fun h => nomatch h)
    | succ n hi6 =>
      intro x1 x2 x4 u ls hl hF _ _ hP hS
      obtain ⟨ih6, hih⟩ : ∃ q, q = q_lp (fX11_slotOf_b6 N) (fun _ _ _ _ => none) n := ⟨_, rfl⟩
      rw [← hih] at hi6
      have hF : fX11_slotOf_b6 N (q_lp (fX11_slotOf_b6 N) (fun _ _ _ _ => none) n) x1 x2 x4 u = some (r0, σ0) := hF
      rw [← hih] at hF
      clear hih
      unfold fX11_slotOf_b6 at hF
      refine lv_iload hx hb dX11_slotOf_6 (lv_at hl 3 rfl) ?_
      refine lv_bipush (v := 48) hx hb dX11_slotOf_8 (by decide) ?_
      refine lv_iload_n hx hb dX11_slotOf_10 rfl (lv_at hl 1 rfl) ?_
      refine lv_imul hx hb dX11_slotOf_11 ?_
      refine lv_aload_n hx hb dX11_slotOf_12 rfl (lv_at hl 0 rfl) ?_
      refine lv_iload_n hx hb dX11_slotOf_13 rfl (lv_at hl 1 rfl) ?_
      obtain ⟨r2, u3, hc4, hF⟩ := q_bnd_some hF
      refine sx_ci (Wd := (am_W a cI)) (σ1 := u3) (q_runV (Wd := (am_W a cI)) (σ := u) (q0 := 0) (ci := 11) (T := TX11) (N := 72) (As := [.int x1]) (rest := [.int (48 * x1), .int x4]) hx hb hml hown hts hK hP (kt_X11_slots hD hc4) cw_X11_315 rfl rfl ⟨Nat.le_of_ble_eq_true rfl, Nat.le_of_ble_eq_true rfl⟩ rfl rfl rfl hl.1 rfl (Nat.le_of_ble_eq_true rfl) dX11_slotOf_14) hS (fun H locs hP hS => ?_)
      refine lv_iadd hx hb dX11_slotOf_17 ?_
      refine sx_icmp_ge (tgt := 53) hx hb hF dX11_slotOf_18 (by decide) (fun hF => ?_) (fun hF => ?_)
      · refine lv_iconst (v := (-1)) hx hb dX11_slotOf_53 (by decide) ?_
        exact sx_reti (Wd := (am_W a cI)) (σ := u3) hx hb hr hF hP hS hlocks dX11_slotOf_54
      · refine lv_aload_n hx hb dX11_slotOf_21 rfl (lv_at hl 0 rfl) ?_
        refine gm_m_slotNode hx hb hts hown hK hP fl_X11_68 dX11_slotOf_22 ?_
        refine lv_iload hx hb dX11_slotOf_25 (lv_at hl 3 rfl) ?_
        refine lm_m_slotNode hx hb hK hP hF dX11_slotOf_27 (fun v5 hF => ?_)
        refine lv_iconst (v := (-1)) hx hb dX11_slotOf_28 (by decide) ?_
        refine sx_icmp_eq (tgt := 47) hx hb hF dX11_slotOf_29 (by decide) (fun hF => ?_) (fun hF => ?_)
        · exact hB47 ih6 hi6 x1 x2 x4 u3 ls (lv_sub hl [0, 1, 2, 3] rfl) hF _ _ hP hS
        · refine lv_aload_n hx hb dX11_slotOf_32 rfl (lv_at hl 0 rfl) ?_
          refine gm_m_slotName hx hb hts hown hK hP fl_X11_71 dX11_slotOf_33 ?_
          refine lv_iload hx hb dX11_slotOf_36 (lv_at hl 3 rfl) ?_
          refine lm_m_slotName hx hb hK hP hF dX11_slotOf_38 (fun v7 hF => ?_)
          refine lv_lload_n hx hb dX11_slotOf_39 rfl (lv_at hl 2 rfl) ?_
          refine W.lcmp hx hb dX11_slotOf_40 ?_
          refine sx_if_ne (tgt := 47) hx hb hF dX11_slotOf_41 (by decide) (fun hF => ?_) (fun hF => ?_)
          · exact hB47 ih6 hi6 x1 x2 x4 u3 ls (lv_sub hl [0, 1, 2, 3] rfl) hF _ _ hP hS
          · refine lv_iload hx hb dX11_slotOf_44 (lv_at hl 3 rfl) ?_
            exact sx_reti (Wd := (am_W a cI)) (σ := u3) hx hb hr hF hP hS hlocks dX11_slotOf_46
  unfold fX11_slotOf at hF
  refine lv_bipush (v := 48) hx hb dX11_slotOf_0 (by decide) ?_
  refine lv_iload_n hx hb dX11_slotOf_2 rfl (lv_at hl 1 rfl) ?_
  refine lv_imul hx hb dX11_slotOf_3 ?_
  refine sx_istore (lv2 := [(0, .ref (a 0)), (1, .int o1), (2, .long o2)]) hx hb hF dX11_slotOf_4 hl (by decide) rfl (fun v1 hF ls hl => ?_)
  exact hB6 N o1 o2 v1 u ls (lv_sub hl [1, 2, 3, 0] rfl) hF _ _ hP hS
set_option maxHeartbeats 4000000 in
set_option maxRecDepth 100000 in
theorem kt_X11_refusal {N : Nat} {l : Launch} {D : va_G} {a : Nat → Nat} {cI : Nat → ClassId} (hD : ∀ σ, va_D (am_A a) (am_W a cI σ)) {o1 : Int32} {o2 : Int64} {u σ0 : q_St} {r0 : Int32} (hF : fX11_refusal N o1 o2 u = some (r0, σ0)) : Met l yX11_refusal (Cond.code yX11_refusal cX11_refusal 4 (some .int) :: q_T) ({ frames := 2, cells := 0, slots := 0, locals := 45 } : Room) (q_P D vwCl (am_T cI) (am_W a cI) [.ref (a 0), .int o1, .long o2] u) (q_Qi D vwCl (am_W a cI) (am_A a) r0 σ0) 0 0 (am_A a) := by
  refine Met.ofW (cc := cX11_refusal) (maxL := 4) (ret := (some .int)) (by decide) rfl ?_
  intro p e s m args below meth c s₁ B hml hv
  obtain ⟨rfl, hP, hK⟩ := hv
  have hx := B.exec
  have hb := B.bytes
  have hr := B.returns
  have hts := q_ts (atoms_spec (ws := Cond.code yX11_refusal cX11_refusal 4 (some .int) :: q_T) B.pre)
  have hown : s.vm.findClass RX11 = some m.cls := findClass_of_methodNamed B.named
  have hlocks := B.notSynchronized
  have hS : va_S (am_A a) s.heap s.heap [] := va_S.rf
  have hl := lv_entry ([.ref (a 0), .int o1, .long o2]) (n := 4) (Nat.le_of_ble_eq_true rfl)
  rw [lg_entry_eq]
  generalize (lg_sl ([.ref (a 0), .int o1, .long o2]) ++ List.replicate (4 - (lg_sl ([.ref (a 0), .int o1, .long o2])).length) Slot.unset).toArray = ls at hl ⊢
  have hl : lv_has ls 4 [(0, .ref (a 0)), (1, .int o1), (2, .long o2)] := hl
  unfold fX11_refusal at hF
  refine lv_aload_n hx hb dX11_refusal_0 rfl (lv_at hl 0 rfl) ?_
  refine lv_iload_n hx hb dX11_refusal_1 rfl (lv_at hl 1 rfl) ?_
  obtain ⟨r1, u2, hc3, hF⟩ := q_bnd_some hF
  refine sx_ci (Wd := (am_W a cI)) (σ1 := u2) (q_runV (Wd := (am_W a cI)) (σ := u) (q0 := 0) (ci := 11) (T := TX11) (N := 72) (As := [.int o1]) (rest := []) hx hb hml hown hts hK hP (kt_X11_isDirectory hD hc3) cw_X11_339 rfl rfl ⟨Nat.le_of_ble_eq_true rfl, Nat.le_of_ble_eq_true rfl⟩ rfl rfl rfl hl.1 rfl (Nat.le_of_ble_eq_true rfl) dX11_refusal_2) hS (fun H locs hP hS => ?_)
  refine sx_if_ne (tgt := 11) hx hb hF dX11_refusal_5 (by decide) (fun hF => ?_) (fun hF => ?_)
  · refine lv_lload_n hx hb dX11_refusal_11 rfl (lv_at hl 2 rfl) ?_
    obtain ⟨r4, u5, hc6, hF⟩ := q_bnd_some hF
    refine sx_ci (Wd := (am_W a cI)) (σ1 := u5) (q_runS (Wd := (am_W a cI)) (σ := u2) (As := [.long o2]) (rest := []) hx hb hml hown hts hK hP (kt_X11_isName hD hc6) cw_X11_342 rfl rfl ⟨Nat.le_of_ble_eq_true rfl, Nat.le_of_ble_eq_true rfl⟩ rfl hl.1 rfl (Nat.le_of_ble_eq_true rfl) dX11_refusal_12) hS (fun H locs hP hS => ?_)
    refine sx_if_ne (tgt := 21) hx hb hF dX11_refusal_15 (by decide) (fun hF => ?_) (fun hF => ?_)
    · refine lv_aload_n hx hb dX11_refusal_21 rfl (lv_at hl 0 rfl) ?_
      refine lv_iload_n hx hb dX11_refusal_22 rfl (lv_at hl 1 rfl) ?_
      refine lv_iconst (v := 3) hx hb dX11_refusal_23 (by decide) ?_
      obtain ⟨r7, u8, hc9, hF⟩ := q_bnd_some hF
      refine sx_ci (Wd := (am_W a cI)) (σ1 := u8) (q_runV (Wd := (am_W a cI)) (σ := u5) (q0 := 0) (ci := 11) (T := TX11) (N := 72) (As := [.int o1, .int 3]) (rest := []) hx hb hml hown hts hK hP (kt_X11_may hD hc9) cw_X11_346 rfl rfl ⟨Nat.le_of_ble_eq_true rfl, Nat.le_of_ble_eq_true rfl⟩ rfl rfl rfl hl.1 rfl (Nat.le_of_ble_eq_true rfl) dX11_refusal_24) hS (fun H locs hP hS => ?_)
      refine sx_if_ne (tgt := 33) hx hb hF dX11_refusal_27 (by decide) (fun hF => ?_) (fun hF => ?_)
      · refine lv_aload_n hx hb dX11_refusal_33 rfl (lv_at hl 0 rfl) ?_
        refine lv_iload_n hx hb dX11_refusal_34 rfl (lv_at hl 1 rfl) ?_
        refine lv_lload_n hx hb dX11_refusal_35 rfl (lv_at hl 2 rfl) ?_
        obtain ⟨r10, u11, hc12, hF⟩ := q_bnd_some hF
        refine sx_ci (Wd := (am_W a cI)) (σ1 := u11) (q_runV (Wd := (am_W a cI)) (σ := u8) (q0 := 0) (ci := 11) (T := TX11) (N := 72) (As := [.int o1, .long o2]) (rest := []) hx hb hml hown hts hK hP (kt_X11_slotOf hD hc12) cw_X11_349 rfl rfl ⟨Nat.le_of_ble_eq_true rfl, Nat.le_of_ble_eq_true rfl⟩ rfl rfl rfl hl.1 rfl (Nat.le_of_ble_eq_true rfl) dX11_refusal_36) hS (fun H locs hP hS => ?_)
        refine lv_iconst (v := (-1)) hx hb dX11_refusal_39 (by decide) ?_
        refine sx_icmp_eq (tgt := 48) hx hb hF dX11_refusal_40 (by decide) (fun hF => ?_) (fun hF => ?_)
        · refine lv_iconst (v := 0) hx hb dX11_refusal_48 (by decide) ?_
          exact sx_reti (Wd := (am_W a cI)) (σ := u11) hx hb hr hF hP hS hlocks dX11_refusal_49
        · refine lv_bipush (v := (-13)) hx hb dX11_refusal_43 (by decide) ?_
          refine lv_goto (tgt := 49) hx hb dX11_refusal_45 (by decide) ?_
          exact sx_reti (Wd := (am_W a cI)) (σ := u11) hx hb hr hF hP hS hlocks dX11_refusal_49
      · refine lv_bipush (v := (-20)) hx hb dX11_refusal_30 (by decide) ?_
        exact sx_reti (Wd := (am_W a cI)) (σ := u8) hx hb hr hF hP hS hlocks dX11_refusal_32
    · refine lv_bipush (v := (-11)) hx hb dX11_refusal_18 (by decide) ?_
      exact sx_reti (Wd := (am_W a cI)) (σ := u5) hx hb hr hF hP hS hlocks dX11_refusal_20
  · refine lv_bipush (v := (-10)) hx hb dX11_refusal_8 (by decide) ?_
    exact sx_reti (Wd := (am_W a cI)) (σ := u2) hx hb hr hF hP hS hlocks dX11_refusal_10
set_option maxHeartbeats 4000000 in
set_option maxRecDepth 100000 in
theorem kt_X11_freeNode {N : Nat} {l : Launch} {D : va_G} {a : Nat → Nat} {cI : Nat → ClassId} (hD : ∀ σ, va_D (am_A a) (am_W a cI σ))  {u σ0 : q_St} {r0 : Int32} (hF : fX11_freeNode N u = some (r0, σ0)) : Met l yX11_freeNode (Cond.code yX11_freeNode cX11_freeNode 2 (some .int) :: q_T) ({ frames := 0, cells := 0, slots := 0, locals := 0 } : Room) (q_P D vwCl (am_T cI) (am_W a cI) [.ref (a 0)] u) (q_Qi D vwCl (am_W a cI) (am_A a) r0 σ0) 0 0 (am_A a) := by
  refine Met.ofW (cc := cX11_freeNode) (maxL := 2) (ret := (some .int)) (by decide) rfl ?_
  intro p e s m args below meth c s₁ B hml hv
  obtain ⟨rfl, hP, hK⟩ := hv
  have hx := B.exec
  have hb := B.bytes
  have hr := B.returns
  have hts := q_ts (atoms_spec (ws := Cond.code yX11_freeNode cX11_freeNode 2 (some .int) :: q_T) B.pre)
  have hown : s.vm.findClass RX11 = some m.cls := findClass_of_methodNamed B.named
  have hlocks := B.notSynchronized
  have hS : va_S (am_A a) s.heap s.heap [] := va_S.rf
  have hl := lv_entry ([.ref (a 0)]) (n := 2) (Nat.le_of_ble_eq_true rfl)
  rw [lg_entry_eq]
  generalize (lg_sl ([.ref (a 0)]) ++ List.replicate (2 - (lg_sl ([.ref (a 0)])).length) Slot.unset).toArray = ls at hl ⊢
  have hl : lv_has ls 2 [(0, .ref (a 0))] := hl
  have hB2 : ∀ (n : Nat) (x1 : Int32) (u : q_St) (ls : Array Slot), lv_has ls 2 [(0, .ref (a 0)), (1, .int x1)] → q_lp (fX11_freeNode_b2 N) (fun _ _ => none) n x1 u = some (r0, σ0) → ∀ (H : Heap) (locs : List Loc), va_P D vwCl (am_W a cI u) H → va_S (am_A a) s.heap H locs → W p l e (headSpec (Cond.code yX11_freeNode cX11_freeNode 2 (some .int) :: q_T) ({ frames := 0, cells := 0, slots := 0, locals := 0 } : Room)).room s m ([.ref (a 0)] : List Value).toArray below meth c H locs 0 0 (MQ below (q_Qi D vwCl (am_W a cI) (am_A a) r0 σ0) ([.ref (a 0)] : List Value).toArray s 0 0 (am_A a)) (F0 m 2 ls []) := by
    intro n
    induction n with
    | zero => intro x1 u ls hl hF; exact absurd (show (none : Option (Int32 × q_St)) = some _ from hF) (fun h => nomatch h)
    | succ n hi2 =>
      intro x1 u ls hl hF _ _ hP hS
      obtain ⟨ih2, hih⟩ : ∃ q, q = q_lp (fX11_freeNode_b2 N) (fun _ _ => none) n := ⟨_, rfl⟩
      rw [← hih] at hi2
      have hF : fX11_freeNode_b2 N (q_lp (fX11_freeNode_b2 N) (fun _ _ => none) n) x1 u = some (r0, σ0) := hF
      rw [← hih] at hF
      clear hih
      unfold fX11_freeNode_b2 at hF
      refine lv_iload_n hx hb dX11_freeNode_2 rfl (lv_at hl 1 rfl) ?_
      refine lv_bipush (v := 64) hx hb dX11_freeNode_3 (by decide) ?_
      refine sx_icmp_ge (tgt := 25) hx hb hF dX11_freeNode_5 (by decide) (fun hF => ?_) (fun hF => ?_)
      · refine lv_iconst (v := (-1)) hx hb dX11_freeNode_25 (by decide) ?_
        exact sx_reti (Wd := (am_W a cI)) (σ := u) hx hb hr hF hP hS hlocks dX11_freeNode_26
      · refine lv_aload_n hx hb dX11_freeNode_8 rfl (lv_at hl 0 rfl) ?_
        refine gm_m_kind hx hb hts hown hK hP fl_X11_40 dX11_freeNode_9 ?_
        refine lv_iload_n hx hb dX11_freeNode_12 rfl (lv_at hl 1 rfl) ?_
        refine lm_m_kind hx hb hK hP hF dX11_freeNode_13 (fun v1 hF => ?_)
        refine sx_if_ne (tgt := 19) hx hb hF dX11_freeNode_14 (by decide) (fun hF => ?_) (fun hF => ?_)
        · refine sx_iinc (d := 1) (k := 1) (lv2 := [(0, .ref (a 0))]) hx hb hF dX11_freeNode_19 hl rfl (by decide) (by decide) rfl (fun v2 hF ls hl => ?_)
          refine lv_goto (tgt := 2) hx hb dX11_freeNode_22 (by decide) ?_
          exact hi2 v2 u ls (lv_sub hl [1, 0] rfl) hF _ _ hP hS
        · refine lv_iload_n hx hb dX11_freeNode_17 rfl (lv_at hl 1 rfl) ?_
          exact sx_reti (Wd := (am_W a cI)) (σ := u) hx hb hr hF hP hS hlocks dX11_freeNode_18
  unfold fX11_freeNode at hF
  refine lv_iconst (v := 0) hx hb dX11_freeNode_0 (by decide) ?_
  refine lv_istore_n (lv' := [(1, .int 0), (0, .ref (a 0))]) hx hb dX11_freeNode_1 rfl hl (by decide) rfl (fun ls hl => ?_)
  exact hB2 N 0 u ls (lv_sub hl [1, 0] rfl) hF _ _ hP hS
set_option maxHeartbeats 4000000 in
set_option maxRecDepth 100000 in
theorem kt_X11_freeSlot {N : Nat} {l : Launch} {D : va_G} {a : Nat → Nat} {cI : Nat → ClassId} (hD : ∀ σ, va_D (am_A a) (am_W a cI σ)) {o1 : Int32} {u σ0 : q_St} {r0 : Int32} (hF : fX11_freeSlot N o1 u = some (r0, σ0)) : Met l yX11_freeSlot (Cond.code yX11_freeSlot cX11_freeSlot 3 (some .int) :: q_T) ({ frames := 1, cells := 0, slots := 0, locals := 21 } : Room) (q_P D vwCl (am_T cI) (am_W a cI) [.ref (a 0), .int o1] u) (q_Qi D vwCl (am_W a cI) (am_A a) r0 σ0) 0 0 (am_A a) := by
  refine Met.ofW (cc := cX11_freeSlot) (maxL := 3) (ret := (some .int)) (by decide) rfl ?_
  intro p e s m args below meth c s₁ B hml hv
  obtain ⟨rfl, hP, hK⟩ := hv
  have hx := B.exec
  have hb := B.bytes
  have hr := B.returns
  have hts := q_ts (atoms_spec (ws := Cond.code yX11_freeSlot cX11_freeSlot 3 (some .int) :: q_T) B.pre)
  have hown : s.vm.findClass RX11 = some m.cls := findClass_of_methodNamed B.named
  have hlocks := B.notSynchronized
  have hS : va_S (am_A a) s.heap s.heap [] := va_S.rf
  have hl := lv_entry ([.ref (a 0), .int o1]) (n := 3) (Nat.le_of_ble_eq_true rfl)
  rw [lg_entry_eq]
  generalize (lg_sl ([.ref (a 0), .int o1]) ++ List.replicate (3 - (lg_sl ([.ref (a 0), .int o1])).length) Slot.unset).toArray = ls at hl ⊢
  have hl : lv_has ls 3 [(0, .ref (a 0)), (1, .int o1)] := hl
  have hB5 : ∀ (n : Nat) (x1 : Int32) (x2 : Int32) (u : q_St) (ls : Array Slot), lv_has ls 3 [(0, .ref (a 0)), (1, .int x1), (2, .int x2)] → q_lp (fX11_freeSlot_b5 N) (fun _ _ _ => none) n x1 x2 u = some (r0, σ0) → ∀ (H : Heap) (locs : List Loc), va_P D vwCl (am_W a cI u) H → va_S (am_A a) s.heap H locs → W p l e (headSpec (Cond.code yX11_freeSlot cX11_freeSlot 3 (some .int) :: q_T) ({ frames := 1, cells := 0, slots := 0, locals := 21 } : Room)).room s m ([.ref (a 0), .int o1] : List Value).toArray below meth c H locs 0 0 (MQ below (q_Qi D vwCl (am_W a cI) (am_A a) r0 σ0) ([.ref (a 0), .int o1] : List Value).toArray s 0 0 (am_A a)) (F0 m 5 ls []) := by
    intro n
    induction n with
    | zero => intro x1 x2 u ls hl hF; exact absurd (show (none : Option (Int32 × q_St)) = some _ from hF) (fun h => nomatch h)
    | succ n hi5 =>
      intro x1 x2 u ls hl hF _ _ hP hS
      obtain ⟨ih5, hih⟩ : ∃ q, q = q_lp (fX11_freeSlot_b5 N) (fun _ _ _ => none) n := ⟨_, rfl⟩
      rw [← hih] at hi5
      have hF : fX11_freeSlot_b5 N (q_lp (fX11_freeSlot_b5 N) (fun _ _ _ => none) n) x1 x2 u = some (r0, σ0) := hF
      rw [← hih] at hF
      clear hih
      unfold fX11_freeSlot_b5 at hF
      refine lv_iload_n hx hb dX11_freeSlot_5 rfl (lv_at hl 2 rfl) ?_
      refine lv_bipush (v := 48) hx hb dX11_freeSlot_6 (by decide) ?_
      refine lv_iload_n hx hb dX11_freeSlot_8 rfl (lv_at hl 1 rfl) ?_
      refine lv_imul hx hb dX11_freeSlot_9 ?_
      refine lv_aload_n hx hb dX11_freeSlot_10 rfl (lv_at hl 0 rfl) ?_
      refine lv_iload_n hx hb dX11_freeSlot_11 rfl (lv_at hl 1 rfl) ?_
      obtain ⟨r2, u3, hc4, hF⟩ := q_bnd_some hF
      refine sx_ci (Wd := (am_W a cI)) (σ1 := u3) (q_runV (Wd := (am_W a cI)) (σ := u) (q0 := 0) (ci := 11) (T := TX11) (N := 72) (As := [.int x1]) (rest := [.int (48 * x1), .int x2]) hx hb hml hown hts hK hP (kt_X11_slots hD hc4) cw_X11_315 rfl rfl ⟨Nat.le_of_ble_eq_true rfl, Nat.le_of_ble_eq_true rfl⟩ rfl rfl rfl hl.1 rfl (Nat.le_of_ble_eq_true rfl) dX11_freeSlot_12) hS (fun H locs hP hS => ?_)
      refine lv_iadd hx hb dX11_freeSlot_15 ?_
      refine sx_icmp_ge (tgt := 37) hx hb hF dX11_freeSlot_16 (by decide) (fun hF => ?_) (fun hF => ?_)
      · refine lv_iconst (v := (-1)) hx hb dX11_freeSlot_37 (by decide) ?_
        exact sx_reti (Wd := (am_W a cI)) (σ := u3) hx hb hr hF hP hS hlocks dX11_freeSlot_38
      · refine lv_aload_n hx hb dX11_freeSlot_19 rfl (lv_at hl 0 rfl) ?_
        refine gm_m_slotNode hx hb hts hown hK hP fl_X11_68 dX11_freeSlot_20 ?_
        refine lv_iload_n hx hb dX11_freeSlot_23 rfl (lv_at hl 2 rfl) ?_
        refine lm_m_slotNode hx hb hK hP hF dX11_freeSlot_24 (fun v5 hF => ?_)
        refine lv_iconst (v := (-1)) hx hb dX11_freeSlot_25 (by decide) ?_
        refine sx_icmp_ne (tgt := 31) hx hb hF dX11_freeSlot_26 (by decide) (fun hF => ?_) (fun hF => ?_)
        · refine sx_iinc (d := 1) (k := 2) (lv2 := [(0, .ref (a 0)), (1, .int x1)]) hx hb hF dX11_freeSlot_31 hl rfl (by decide) (by decide) rfl (fun v6 hF ls hl => ?_)
          refine lv_goto (tgt := 5) hx hb dX11_freeSlot_34 (by decide) ?_
          exact hi5 x1 v6 u3 ls (lv_sub hl [1, 2, 0] rfl) hF _ _ hP hS
        · refine lv_iload_n hx hb dX11_freeSlot_29 rfl (lv_at hl 2 rfl) ?_
          exact sx_reti (Wd := (am_W a cI)) (σ := u3) hx hb hr hF hP hS hlocks dX11_freeSlot_30
  unfold fX11_freeSlot at hF
  refine lv_bipush (v := 48) hx hb dX11_freeSlot_0 (by decide) ?_
  refine lv_iload_n hx hb dX11_freeSlot_2 rfl (lv_at hl 1 rfl) ?_
  refine lv_imul hx hb dX11_freeSlot_3 ?_
  refine sx_istore_n (lv2 := [(0, .ref (a 0)), (1, .int o1)]) hx hb hF dX11_freeSlot_4 rfl hl (by decide) rfl (fun v1 hF ls hl => ?_)
  exact hB5 N o1 v1 u ls (lv_sub hl [1, 2, 0] rfl) hF _ _ hP hS
set_option maxHeartbeats 4000000 in
set_option maxRecDepth 100000 in
theorem kt_X11_freeBlock {N : Nat} {l : Launch} {D : va_G} {a : Nat → Nat} {cI : Nat → ClassId} (hD : ∀ σ, va_D (am_A a) (am_W a cI σ)) {o1 : Int32} {u σ0 : q_St} {r0 : Int32} (hF : fX11_freeBlock N o1 u = some (r0, σ0)) : Met l yX11_freeBlock (Cond.code yX11_freeBlock cX11_freeBlock 3 (some .int) :: q_T) ({ frames := 0, cells := 0, slots := 0, locals := 0 } : Room) (q_P D vwCl (am_T cI) (am_W a cI) [.ref (a 0), .int o1] u) (q_Qi D vwCl (am_W a cI) (am_A a) r0 σ0) 0 0 (am_A a) := by
  refine Met.ofW (cc := cX11_freeBlock) (maxL := 3) (ret := (some .int)) (by decide) rfl ?_
  intro p e s m args below meth c s₁ B hml hv
  obtain ⟨rfl, hP, hK⟩ := hv
  have hx := B.exec
  have hb := B.bytes
  have hr := B.returns
  have hts := q_ts (atoms_spec (ws := Cond.code yX11_freeBlock cX11_freeBlock 3 (some .int) :: q_T) B.pre)
  have hown : s.vm.findClass RX11 = some m.cls := findClass_of_methodNamed B.named
  have hlocks := B.notSynchronized
  have hS : va_S (am_A a) s.heap s.heap [] := va_S.rf
  have hl := lv_entry ([.ref (a 0), .int o1]) (n := 3) (Nat.le_of_ble_eq_true rfl)
  rw [lg_entry_eq]
  generalize (lg_sl ([.ref (a 0), .int o1]) ++ List.replicate (3 - (lg_sl ([.ref (a 0), .int o1])).length) Slot.unset).toArray = ls at hl ⊢
  have hl : lv_has ls 3 [(0, .ref (a 0)), (1, .int o1)] := hl
  have hB34 : ∀ (ih5 : Int32 → Int32 → q_St → Option (Int32 × q_St)) (hi5 : ∀ (x1 : Int32) (x2 : Int32) (u : q_St) (ls : Array Slot), lv_has ls 3 [(0, .ref (a 0)), (1, .int x1), (2, .int x2)] → ih5 x1 x2 u = some (r0, σ0) → ∀ (H : Heap) (locs : List Loc), va_P D vwCl (am_W a cI u) H → va_S (am_A a) s.heap H locs → W p l e (headSpec (Cond.code yX11_freeBlock cX11_freeBlock 3 (some .int) :: q_T) ({ frames := 0, cells := 0, slots := 0, locals := 0 } : Room)).room s m ([.ref (a 0), .int o1] : List Value).toArray below meth c H locs 0 0 (MQ below (q_Qi D vwCl (am_W a cI) (am_A a) r0 σ0) ([.ref (a 0), .int o1] : List Value).toArray s 0 0 (am_A a)) (F0 m 5 ls [])), ∀ (x1 : Int32) (x2 : Int32) (u : q_St) (ls : Array Slot), lv_has ls 3 [(0, .ref (a 0)), (1, .int x1), (2, .int x2)] → fX11_freeBlock_b34 N ih5 x1 x2 u = some (r0, σ0) → ∀ (H : Heap) (locs : List Loc), va_P D vwCl (am_W a cI u) H → va_S (am_A a) s.heap H locs → W p l e (headSpec (Cond.code yX11_freeBlock cX11_freeBlock 3 (some .int) :: q_T) ({ frames := 0, cells := 0, slots := 0, locals := 0 } : Room)).room s m ([.ref (a 0), .int o1] : List Value).toArray below meth c H locs 0 0 (MQ below (q_Qi D vwCl (am_W a cI) (am_A a) r0 σ0) ([.ref (a 0), .int o1] : List Value).toArray s 0 0 (am_A a)) (F0 m 34 ls []) := by
    intro ih5 hi5 x1 x2 u ls hl hF _ _ hP hS
    unfold fX11_freeBlock_b34 at hF
    refine sx_iinc (d := 1) (k := 2) (lv2 := [(0, .ref (a 0)), (1, .int x1)]) hx hb hF dX11_freeBlock_34 hl rfl (by decide) (by decide) rfl (fun v3 hF ls hl => ?_)
    refine lv_goto (tgt := 5) hx hb dX11_freeBlock_37 (by decide) ?_
    exact hi5 x1 v3 u ls (lv_sub hl [1, 2, 0] rfl) hF _ _ hP hS
  have hB5 : ∀ (n : Nat) (x1 : Int32) (x2 : Int32) (u : q_St) (ls : Array Slot), lv_has ls 3 [(0, .ref (a 0)), (1, .int x1), (2, .int x2)] → q_lp (fX11_freeBlock_b5 N) (fun _ _ _ => none) n x1 x2 u = some (r0, σ0) → ∀ (H : Heap) (locs : List Loc), va_P D vwCl (am_W a cI u) H → va_S (am_A a) s.heap H locs → W p l e (headSpec (Cond.code yX11_freeBlock cX11_freeBlock 3 (some .int) :: q_T) ({ frames := 0, cells := 0, slots := 0, locals := 0 } : Room)).room s m ([.ref (a 0), .int o1] : List Value).toArray below meth c H locs 0 0 (MQ below (q_Qi D vwCl (am_W a cI) (am_A a) r0 σ0) ([.ref (a 0), .int o1] : List Value).toArray s 0 0 (am_A a)) (F0 m 5 ls []) := by
    intro n
    induction n with
    | zero => intro x1 x2 u ls hl hF; exact absurd (show (none : Option (Int32 × q_St)) = some _ from hF) (fun h => nomatch h)
    | succ n hi5 =>
      intro x1 x2 u ls hl hF _ _ hP hS
      obtain ⟨ih5, hih⟩ : ∃ q, q = q_lp (fX11_freeBlock_b5 N) (fun _ _ _ => none) n := ⟨_, rfl⟩
      rw [← hih] at hi5
      have hF : fX11_freeBlock_b5 N (q_lp (fX11_freeBlock_b5 N) (fun _ _ _ => none) n) x1 x2 u = some (r0, σ0) := hF
      rw [← hih] at hF
      clear hih
      unfold fX11_freeBlock_b5 at hF
      refine lv_iload_n hx hb dX11_freeBlock_5 rfl (lv_at hl 2 rfl) ?_
      refine lv_aload_n hx hb dX11_freeBlock_6 rfl (lv_at hl 0 rfl) ?_
      refine gm_m_all hx hb hts hown hK hP fl_X11_168 dX11_freeBlock_7 ?_
      refine sx_icmp_ge (tgt := 40) hx hb hF dX11_freeBlock_10 (by decide) (fun hF => ?_) (fun hF => ?_)
      · refine lv_iconst (v := (-1)) hx hb dX11_freeBlock_40 (by decide) ?_
        exact sx_reti (Wd := (am_W a cI)) (σ := u) hx hb hr hF hP hS hlocks dX11_freeBlock_41
      · refine lv_aload_n hx hb dX11_freeBlock_13 rfl (lv_at hl 0 rfl) ?_
        refine gm_m_isUsed hx hb hts hown hK hP fl_X11_82 dX11_freeBlock_14 ?_
        refine lv_iload_n hx hb dX11_freeBlock_17 rfl (lv_at hl 2 rfl) ?_
        refine lm_m_isUsed hx hb hK hP hF dX11_freeBlock_18 (fun v2 hF => ?_)
        refine sx_if_ne (tgt := 34) hx hb hF dX11_freeBlock_19 (by decide) (fun hF => ?_) (fun hF => ?_)
        · exact hB34 ih5 hi5 x1 x2 u ls (lv_sub hl [0, 1, 2] rfl) hF _ _ hP hS
        · refine lv_iload_n hx hb dX11_freeBlock_22 rfl (lv_at hl 2 rfl) ?_
          refine lv_aload_n hx hb dX11_freeBlock_23 rfl (lv_at hl 0 rfl) ?_
          refine gm_m_wide hx hb hts hown hK hP fl_X11_165 dX11_freeBlock_24 ?_
          refine sx_idiv hx hb hF dX11_freeBlock_27 (fun hF => ?_)
          refine lv_iload_n hx hb dX11_freeBlock_28 rfl (lv_at hl 1 rfl) ?_
          refine sx_icmp_eq (tgt := 34) hx hb hF dX11_freeBlock_29 (by decide) (fun hF => ?_) (fun hF => ?_)
          · exact hB34 ih5 hi5 x1 x2 u ls (lv_sub hl [0, 1, 2] rfl) hF _ _ hP hS
          · refine lv_iload_n hx hb dX11_freeBlock_32 rfl (lv_at hl 2 rfl) ?_
            exact sx_reti (Wd := (am_W a cI)) (σ := u) hx hb hr hF hP hS hlocks dX11_freeBlock_33
  unfold fX11_freeBlock at hF
  refine lv_aload_n hx hb dX11_freeBlock_0 rfl (lv_at hl 0 rfl) ?_
  refine gm_m_firstBlock hx hb hts hown hK hP fl_X11_177 dX11_freeBlock_1 ?_
  refine sx_istore_n (lv2 := [(0, .ref (a 0)), (1, .int o1)]) hx hb hF dX11_freeBlock_4 rfl hl (by decide) rfl (fun v1 hF ls hl => ?_)
  exact hB5 N o1 v1 u ls (lv_sub hl [1, 2, 0] rfl) hF _ _ hP hS
set_option maxHeartbeats 4000000 in
set_option maxRecDepth 100000 in
theorem kt_X11_hasRoom {N : Nat} {l : Launch} {D : va_G} {a : Nat → Nat} {cI : Nat → ClassId} (hD : ∀ σ, va_D (am_A a) (am_W a cI σ)) {o1 : Int32} {o2 : Int32} {u σ0 : q_St} {r0 : Int32} (hF : fX11_hasRoom N o1 o2 u = some (r0, σ0)) : Met l yX11_hasRoom (Cond.code yX11_hasRoom cX11_hasRoom 3 (some .boolean) :: q_T) ({ frames := 2, cells := 0, slots := 0, locals := 43 } : Room) (q_P D vwCl (am_T cI) (am_W a cI) [.ref (a 0), .int o1, .int o2] u) (q_Qi D vwCl (am_W a cI) (am_A a) r0 σ0) 0 0 (am_A a) := by
  refine Met.ofW (cc := cX11_hasRoom) (maxL := 3) (ret := (some .boolean)) (by decide) rfl ?_
  intro p e s m args below meth c s₁ B hml hv
  obtain ⟨rfl, hP, hK⟩ := hv
  have hx := B.exec
  have hb := B.bytes
  have hr := B.returns
  have hts := q_ts (atoms_spec (ws := Cond.code yX11_hasRoom cX11_hasRoom 3 (some .boolean) :: q_T) B.pre)
  have hown : s.vm.findClass RX11 = some m.cls := findClass_of_methodNamed B.named
  have hlocks := B.notSynchronized
  have hS : va_S (am_A a) s.heap s.heap [] := va_S.rf
  have hl := lv_entry ([.ref (a 0), .int o1, .int o2]) (n := 3) (Nat.le_of_ble_eq_true rfl)
  rw [lg_entry_eq]
  generalize (lg_sl ([.ref (a 0), .int o1, .int o2]) ++ List.replicate (3 - (lg_sl ([.ref (a 0), .int o1, .int o2])).length) Slot.unset).toArray = ls at hl ⊢
  have hl : lv_has ls 3 [(0, .ref (a 0)), (1, .int o1), (2, .int o2)] := hl
  have hB29 : ∀ (u : q_St) (ls : Array Slot), lv_has ls 3 [] → fX11_hasRoom_b29 N u = some (r0, σ0) → ∀ (H : Heap) (locs : List Loc), va_P D vwCl (am_W a cI u) H → va_S (am_A a) s.heap H locs → W p l e (headSpec (Cond.code yX11_hasRoom cX11_hasRoom 3 (some .boolean) :: q_T) ({ frames := 2, cells := 0, slots := 0, locals := 43 } : Room)).room s m ([.ref (a 0), .int o1, .int o2] : List Value).toArray below meth c H locs 0 0 (MQ below (q_Qi D vwCl (am_W a cI) (am_A a) r0 σ0) ([.ref (a 0), .int o1, .int o2] : List Value).toArray s 0 0 (am_A a)) (F0 m 29 ls []) := by
    intro u ls hl hF _ _ hP hS
    unfold fX11_hasRoom_b29 at hF
    refine lv_iconst (v := 1) hx hb dX11_hasRoom_29 (by decide) ?_
    refine lv_goto (tgt := 34) hx hb dX11_hasRoom_30 (by decide) ?_
    exact sx_retz (Wd := (am_W a cI)) (σ := u) hx hb hr (by decide) hF hP hS hlocks dX11_hasRoom_34
  unfold fX11_hasRoom at hF
  refine lv_aload_n hx hb dX11_hasRoom_0 rfl (lv_at hl 0 rfl) ?_
  refine lv_iload_n hx hb dX11_hasRoom_1 rfl (lv_at hl 1 rfl) ?_
  obtain ⟨r1, u2, hc3, hF⟩ := q_bnd_some hF
  refine sx_ci (Wd := (am_W a cI)) (σ1 := u2) (q_runV (Wd := (am_W a cI)) (σ := u) (q0 := 0) (ci := 11) (T := TX11) (N := 72) (As := [.int o1]) (rest := []) hx hb hml hown hts hK hP (kt_X11_freeSlot hD hc3) cw_X11_318 rfl rfl ⟨Nat.le_of_ble_eq_true rfl, Nat.le_of_ble_eq_true rfl⟩ rfl rfl rfl hl.1 rfl (Nat.le_of_ble_eq_true rfl) dX11_hasRoom_2) hS (fun H locs hP hS => ?_)
  refine lv_iconst (v := (-1)) hx hb dX11_hasRoom_5 (by decide) ?_
  refine sx_icmp_ne (tgt := 29) hx hb hF dX11_hasRoom_6 (by decide) (fun hF => ?_) (fun hF => ?_)
  · exact hB29 u2 ls (lv_sub hl [] rfl) hF _ _ hP hS
  · refine lv_aload_n hx hb dX11_hasRoom_9 rfl (lv_at hl 0 rfl) ?_
    refine gm_m_many hx hb hts hown hK hP fl_X11_49 dX11_hasRoom_10 ?_
    refine lv_iload_n hx hb dX11_hasRoom_13 rfl (lv_at hl 1 rfl) ?_
    refine lm_m_many hx hb hK hP hF dX11_hasRoom_14 (fun v4 hF => ?_)
    refine lv_bipush (v := 12) hx hb dX11_hasRoom_15 (by decide) ?_
    refine sx_icmp_ge (tgt := 33) hx hb hF dX11_hasRoom_17 (by decide) (fun hF => ?_) (fun hF => ?_)
    · refine lv_iconst (v := 0) hx hb dX11_hasRoom_33 (by decide) ?_
      exact sx_retz (Wd := (am_W a cI)) (σ := u2) hx hb hr (by decide) hF hP hS hlocks dX11_hasRoom_34
    · refine lv_aload_n hx hb dX11_hasRoom_20 rfl (lv_at hl 0 rfl) ?_
      refine lv_iload_n hx hb dX11_hasRoom_21 rfl (lv_at hl 2 rfl) ?_
      obtain ⟨r5, u6, hc7, hF⟩ := q_bnd_some hF
      refine sx_ci (Wd := (am_W a cI)) (σ1 := u6) (q_runV (Wd := (am_W a cI)) (σ := u2) (q0 := 0) (ci := 11) (T := TX11) (N := 72) (As := [.int o2]) (rest := []) hx hb hml hown hts hK hP (kt_X11_freeBlock hD hc7) cw_X11_297 rfl rfl ⟨Nat.le_of_ble_eq_true rfl, Nat.le_of_ble_eq_true rfl⟩ rfl rfl rfl hl.1 rfl (Nat.le_of_ble_eq_true rfl) dX11_hasRoom_22) hS (fun H locs hP hS => ?_)
      refine lv_iconst (v := (-1)) hx hb dX11_hasRoom_25 (by decide) ?_
      refine sx_icmp_eq (tgt := 33) hx hb hF dX11_hasRoom_26 (by decide) (fun hF => ?_) (fun hF => ?_)
      · refine lv_iconst (v := 0) hx hb dX11_hasRoom_33 (by decide) ?_
        exact sx_retz (Wd := (am_W a cI)) (σ := u6) hx hb hr (by decide) hF hP hS hlocks dX11_hasRoom_34
      · exact hB29 u6 ls (lv_sub hl [] rfl) hF _ _ hP hS
set_option maxHeartbeats 4000000 in
set_option maxRecDepth 100000 in
theorem kt_X11_soilSlot {N : Nat} {l : Launch} {D : va_G} {a : Nat → Nat} {cI : Nat → ClassId} (hD : ∀ σ, va_D (am_A a) (am_W a cI σ)) {o1 : Int32} {u σ0 : q_St} {r0 : Unit} (hF : fX11_soilSlot N o1 u = some (r0, σ0)) : Met l yX11_soilSlot (Cond.code yX11_soilSlot cX11_soilSlot 3 none :: q_T) ({ frames := 1, cells := 0, slots := 0, locals := 21 } : Room) (q_P D vwCl (am_T cI) (am_W a cI) [.ref (a 0), .int o1] u) (q_Qv D vwCl (am_W a cI) (am_A a) σ0) 0 0 (am_A a) := by
  refine Met.ofW (cc := cX11_soilSlot) (maxL := 3) (ret := none) (by decide) rfl ?_
  intro p e s m args below meth c s₁ B hml hv
  obtain ⟨rfl, hP, hK⟩ := hv
  have hx := B.exec
  have hb := B.bytes
  have hr := B.returns
  have hts := q_ts (atoms_spec (ws := Cond.code yX11_soilSlot cX11_soilSlot 3 none :: q_T) B.pre)
  have hown : s.vm.findClass RX11 = some m.cls := findClass_of_methodNamed B.named
  have hlocks := B.notSynchronized
  have hS : va_S (am_A a) s.heap s.heap [] := va_S.rf
  have hl := lv_entry ([.ref (a 0), .int o1]) (n := 3) (Nat.le_of_ble_eq_true rfl)
  rw [lg_entry_eq]
  generalize (lg_sl ([.ref (a 0), .int o1]) ++ List.replicate (3 - (lg_sl ([.ref (a 0), .int o1])).length) Slot.unset).toArray = ls at hl ⊢
  have hl : lv_has ls 3 [(0, .ref (a 0)), (1, .int o1)] := hl
  unfold fX11_soilSlot at hF
  refine lv_iload_n hx hb dX11_soilSlot_0 rfl (lv_at hl 1 rfl) ?_
  refine lv_bipush (v := 48) hx hb dX11_soilSlot_1 (by decide) ?_
  refine lv_idiv hx hb dX11_soilSlot_3 (by decide) ?_
  refine sx_istore_n (lv2 := [(0, .ref (a 0)), (1, .int o1)]) hx hb hF dX11_soilSlot_4 rfl hl (by decide) rfl (fun v1 hF ls hl => ?_)
  refine lv_aload_n hx hb dX11_soilSlot_5 rfl (lv_at hl 1 rfl) ?_
  refine lv_aload_n hx hb dX11_soilSlot_6 rfl (lv_at hl 1 rfl) ?_
  refine gm_m_block hx hb hts hown hK hP fl_X11_65 dX11_soilSlot_7 ?_
  refine lv_bipush (v := 12) hx hb dX11_soilSlot_10 (by decide) ?_
  refine lv_iload_n hx hb dX11_soilSlot_12 rfl (lv_at hl 0 rfl) ?_
  refine lv_imul hx hb dX11_soilSlot_13 ?_
  refine lv_iload_n hx hb dX11_soilSlot_14 rfl (lv_at hl 2 rfl) ?_
  refine lv_bipush (v := 48) hx hb dX11_soilSlot_15 (by decide) ?_
  refine lv_irem hx hb dX11_soilSlot_17 (by decide) ?_
  refine lv_iconst (v := 4) hx hb dX11_soilSlot_18 (by decide) ?_
  refine lv_idiv hx hb dX11_soilSlot_19 (by decide) ?_
  refine lv_iadd hx hb dX11_soilSlot_20 ?_
  refine lm_m_block hx hb hK hP hF dX11_soilSlot_21 (fun v2 hF => ?_)
  obtain ⟨r3, u4, hc5, hF⟩ := q_bnd_some hF
  refine sx_cv (Wd := (am_W a cI)) (σ1 := u4) (q_runV (Wd := (am_W a cI)) (σ := u) (q0 := 0) (ci := 11) (T := TX11) (N := 72) (As := [.int v2]) (rest := []) hx hb hml hown hts hK hP (kt_X11_soil hD hc5) cw_X11_294 rfl rfl ⟨Nat.le_of_ble_eq_true rfl, Nat.le_of_ble_eq_true rfl⟩ rfl rfl rfl hl.1 rfl (Nat.le_of_ble_eq_true rfl) dX11_soilSlot_22) hS (fun H locs hP hS => ?_)
  exact sx_retv (Wd := (am_W a cI)) (σ := u4) hx hb hr hF hP hS hlocks dX11_soilSlot_25
set_option maxHeartbeats 4000000 in
set_option maxRecDepth 100000 in
theorem kt_X11_soilMap {N : Nat} {l : Launch} {D : va_G} {a : Nat → Nat} {cI : Nat → ClassId} (hD : ∀ σ, va_D (am_A a) (am_W a cI σ)) {o1 : Int32} {u σ0 : q_St} {r0 : Unit} (hF : fX11_soilMap N o1 u = some (r0, σ0)) : Met l yX11_soilMap (Cond.code yX11_soilMap cX11_soilMap 2 none :: q_T) ({ frames := 1, cells := 0, slots := 0, locals := 21 } : Room) (q_P D vwCl (am_T cI) (am_W a cI) [.ref (a 0), .int o1] u) (q_Qv D vwCl (am_W a cI) (am_A a) σ0) 0 0 (am_A a) := by
  refine Met.ofW (cc := cX11_soilMap) (maxL := 2) (ret := none) (by decide) rfl ?_
  intro p e s m args below meth c s₁ B hml hv
  obtain ⟨rfl, hP, hK⟩ := hv
  have hx := B.exec
  have hb := B.bytes
  have hr := B.returns
  have hts := q_ts (atoms_spec (ws := Cond.code yX11_soilMap cX11_soilMap 2 none :: q_T) B.pre)
  have hown : s.vm.findClass RX11 = some m.cls := findClass_of_methodNamed B.named
  have hlocks := B.notSynchronized
  have hS : va_S (am_A a) s.heap s.heap [] := va_S.rf
  have hl := lv_entry ([.ref (a 0), .int o1]) (n := 2) (Nat.le_of_ble_eq_true rfl)
  rw [lg_entry_eq]
  generalize (lg_sl ([.ref (a 0), .int o1]) ++ List.replicate (2 - (lg_sl ([.ref (a 0), .int o1])).length) Slot.unset).toArray = ls at hl ⊢
  have hl : lv_has ls 2 [(0, .ref (a 0)), (1, .int o1)] := hl
  unfold fX11_soilMap at hF
  refine lv_aload_n hx hb dX11_soilMap_0 rfl (lv_at hl 0 rfl) ?_
  refine lv_aload_n hx hb dX11_soilMap_1 rfl (lv_at hl 0 rfl) ?_
  refine gm_m_mapAt hx hb hts hown hK hP fl_X11_171 dX11_soilMap_2 ?_
  refine lv_iload_n hx hb dX11_soilMap_5 rfl (lv_at hl 1 rfl) ?_
  refine lv_sipush (v := 512) hx hb dX11_soilMap_6 (by decide) ?_
  refine lv_idiv hx hb dX11_soilMap_9 (by decide) ?_
  refine lv_iadd hx hb dX11_soilMap_10 ?_
  obtain ⟨r1, u2, hc3, hF⟩ := q_bnd_some hF
  refine sx_cv (Wd := (am_W a cI)) (σ1 := u2) (q_runV (Wd := (am_W a cI)) (σ := u) (q0 := 0) (ci := 11) (T := TX11) (N := 72) (As := [.int ((q_i u 7) + (o1 / 512))]) (rest := []) hx hb hml hown hts hK hP (kt_X11_soil hD hc3) cw_X11_294 rfl rfl ⟨Nat.le_of_ble_eq_true rfl, Nat.le_of_ble_eq_true rfl⟩ rfl rfl rfl hl.1 rfl (Nat.le_of_ble_eq_true rfl) dX11_soilMap_11) hS (fun H locs hP hS => ?_)
  exact sx_retv (Wd := (am_W a cI)) (σ := u2) hx hb hr hF hP hS hlocks dX11_soilMap_14
set_option maxHeartbeats 4000000 in
set_option maxRecDepth 100000 in
theorem kt_X11_takeBlock {N : Nat} {l : Launch} {D : va_G} {a : Nat → Nat} {cI : Nat → ClassId} (hD : ∀ σ, va_D (am_A a) (am_W a cI σ)) {o1 : Int32} {u σ0 : q_St} {r0 : Int32} (hF : fX11_takeBlock N o1 u = some (r0, σ0)) : Met l yX11_takeBlock (Cond.code yX11_takeBlock cX11_takeBlock 4 (some .int) :: q_T) ({ frames := 2, cells := 0, slots := 0, locals := 42 } : Room) (q_P D vwCl (am_T cI) (am_W a cI) [.ref (a 0), .int o1] u) (q_Qi D vwCl (am_W a cI) (am_A a) r0 σ0) 0 0 (am_A a) := by
  refine Met.ofW (cc := cX11_takeBlock) (maxL := 4) (ret := (some .int)) (by decide) rfl ?_
  intro p e s m args below meth c s₁ B hml hv
  obtain ⟨rfl, hP, hK⟩ := hv
  have hx := B.exec
  have hb := B.bytes
  have hr := B.returns
  have hts := q_ts (atoms_spec (ws := Cond.code yX11_takeBlock cX11_takeBlock 4 (some .int) :: q_T) B.pre)
  have hown : s.vm.findClass RX11 = some m.cls := findClass_of_methodNamed B.named
  have hlocks := B.notSynchronized
  have hS : va_S (am_A a) s.heap s.heap [] := va_S.rf
  have hl := lv_entry ([.ref (a 0), .int o1]) (n := 4) (Nat.le_of_ble_eq_true rfl)
  rw [lg_entry_eq]
  generalize (lg_sl ([.ref (a 0), .int o1]) ++ List.replicate (4 - (lg_sl ([.ref (a 0), .int o1])).length) Slot.unset).toArray = ls at hl ⊢
  have hl : lv_has ls 4 [(0, .ref (a 0)), (1, .int o1)] := hl
  have hB28 : ∀ (n : Nat) (x2 : Int32) (x3 : Int32) (u : q_St) (ls : Array Slot), lv_has ls 4 [(0, .ref (a 0)), (2, .int x2), (3, .int x3)] → q_lp (fX11_takeBlock_b28 N) (fun _ _ _ => none) n x2 x3 u = some (r0, σ0) → ∀ (H : Heap) (locs : List Loc), va_P D vwCl (am_W a cI u) H → va_S (am_A a) s.heap H locs → W p l e (headSpec (Cond.code yX11_takeBlock cX11_takeBlock 4 (some .int) :: q_T) ({ frames := 2, cells := 0, slots := 0, locals := 42 } : Room)).room s m ([.ref (a 0), .int o1] : List Value).toArray below meth c H locs 0 0 (MQ below (q_Qi D vwCl (am_W a cI) (am_A a) r0 σ0) ([.ref (a 0), .int o1] : List Value).toArray s 0 0 (am_A a)) (F0 m 28 ls []) := by
    intro n
    induction n with
    | zero => intro x2 x3 u ls hl hF; exact absurd (show (none : Option (Int32 × q_St)) = some _ from hF) (fun h => nomatch h)
    | succ n hi28 =>
      intro x2 x3 u ls hl hF _ _ hP hS
      obtain ⟨ih28, hih⟩ : ∃ q, q = q_lp (fX11_takeBlock_b28 N) (fun _ _ _ => none) n := ⟨_, rfl⟩
      rw [← hih] at hi28
      have hF : fX11_takeBlock_b28 N (q_lp (fX11_takeBlock_b28 N) (fun _ _ _ => none) n) x2 x3 u = some (r0, σ0) := hF
      rw [← hih] at hF
      clear hih
      unfold fX11_takeBlock_b28 at hF
      refine lv_iload_n hx hb dX11_takeBlock_28 rfl (lv_at hl 2 rfl) ?_
      refine lv_bipush (v := 64) hx hb dX11_takeBlock_29 (by decide) ?_
      refine lv_iload_n hx hb dX11_takeBlock_31 rfl (lv_at hl 1 rfl) ?_
      refine lv_imul hx hb dX11_takeBlock_32 ?_
      refine lv_bipush (v := 64) hx hb dX11_takeBlock_33 (by decide) ?_
      refine lv_iadd hx hb dX11_takeBlock_35 ?_
      refine sx_icmp_ge (tgt := 52) hx hb hF dX11_takeBlock_36 (by decide) (fun hF => ?_) (fun hF => ?_)
      · refine lv_iload_n hx hb dX11_takeBlock_52 rfl (lv_at hl 1 rfl) ?_
        exact sx_reti (Wd := (am_W a cI)) (σ := u) hx hb hr hF hP hS hlocks dX11_takeBlock_53
      · refine lv_aload_n hx hb dX11_takeBlock_39 rfl (lv_at hl 0 rfl) ?_
        refine gm_m_bytes hx hb hts hown hK hP fl_X11_86 dX11_takeBlock_40 ?_
        refine lv_iload_n hx hb dX11_takeBlock_43 rfl (lv_at hl 2 rfl) ?_
        refine lv_iconst (v := 0) hx hb dX11_takeBlock_44 (by decide) ?_
        refine um_m_bytes hx hb hK hP hD hS hF dX11_takeBlock_45 (fun u12 H locs hF hP hS => ?_)
        refine sx_iinc (d := 1) (k := 2) (lv2 := [(0, .ref (a 0)), (2, .int x2)]) hx hb hF dX11_takeBlock_46 hl rfl (by decide) (by decide) rfl (fun v13 hF ls hl => ?_)
        refine lv_goto (tgt := 28) hx hb dX11_takeBlock_49 (by decide) ?_
        exact hi28 x2 v13 u12 ls (lv_sub hl [1, 2, 0] rfl) hF _ _ hP hS
  unfold fX11_takeBlock at hF
  refine lv_aload_n hx hb dX11_takeBlock_0 rfl (lv_at hl 0 rfl) ?_
  refine lv_iload_n hx hb dX11_takeBlock_1 rfl (lv_at hl 1 rfl) ?_
  obtain ⟨r1, u2, hc3, hF⟩ := q_bnd_some hF
  refine sx_ci (Wd := (am_W a cI)) (σ1 := u2) (q_runV (Wd := (am_W a cI)) (σ := u) (q0 := 0) (ci := 11) (T := TX11) (N := 72) (As := [.int o1]) (rest := []) hx hb hml hown hts hK hP (kt_X11_freeBlock hD hc3) cw_X11_297 rfl rfl ⟨Nat.le_of_ble_eq_true rfl, Nat.le_of_ble_eq_true rfl⟩ rfl rfl rfl hl.1 rfl (Nat.le_of_ble_eq_true rfl) dX11_takeBlock_2) hS (fun H locs hP hS => ?_)
  refine lv_istore_n (lv' := [(2, .int r1), (0, .ref (a 0)), (1, .int o1)]) hx hb dX11_takeBlock_5 rfl hl (by decide) rfl (fun ls hl => ?_)
  refine lv_aload_n hx hb dX11_takeBlock_6 rfl (lv_at hl 1 rfl) ?_
  refine gm_m_isUsed hx hb hts hown hK hP fl_X11_82 dX11_takeBlock_7 ?_
  refine lv_iload_n hx hb dX11_takeBlock_10 rfl (lv_at hl 0 rfl) ?_
  refine lv_iconst (v := 1) hx hb dX11_takeBlock_11 (by decide) ?_
  refine um_m_isUsed hx hb hK hP hD hS hF dX11_takeBlock_12 (fun u4 H locs hF hP hS => ?_)
  refine lv_aload_n hx hb dX11_takeBlock_13 rfl (lv_at hl 1 rfl) ?_
  refine lv_iload_n hx hb dX11_takeBlock_14 rfl (lv_at hl 0 rfl) ?_
  obtain ⟨r5, u6, hc7, hF⟩ := q_bnd_some hF
  refine sx_cv (Wd := (am_W a cI)) (σ1 := u6) (q_runV (Wd := (am_W a cI)) (σ := u4) (q0 := 0) (ci := 11) (T := TX11) (N := 72) (As := [.int r1]) (rest := []) hx hb hml hown hts hK hP (kt_X11_soilMap hD hc7) cw_X11_300 rfl rfl ⟨Nat.le_of_ble_eq_true rfl, Nat.le_of_ble_eq_true rfl⟩ rfl rfl rfl hl.1 rfl (Nat.le_of_ble_eq_true rfl) dX11_takeBlock_15) hS (fun H locs hP hS => ?_)
  refine lv_aload_n hx hb dX11_takeBlock_18 rfl (lv_at hl 1 rfl) ?_
  refine lv_iload_n hx hb dX11_takeBlock_19 rfl (lv_at hl 0 rfl) ?_
  obtain ⟨r8, u9, hc10, hF⟩ := q_bnd_some hF
  refine sx_cv (Wd := (am_W a cI)) (σ1 := u9) (q_runV (Wd := (am_W a cI)) (σ := u6) (q0 := 0) (ci := 11) (T := TX11) (N := 72) (As := [.int r1]) (rest := []) hx hb hml hown hts hK hP (kt_X11_soil hD hc10) cw_X11_294 rfl rfl ⟨Nat.le_of_ble_eq_true rfl, Nat.le_of_ble_eq_true rfl⟩ rfl rfl rfl hl.1 rfl (Nat.le_of_ble_eq_true rfl) dX11_takeBlock_20) hS (fun H locs hP hS => ?_)
  refine lv_bipush (v := 64) hx hb dX11_takeBlock_23 (by decide) ?_
  refine lv_iload_n hx hb dX11_takeBlock_25 rfl (lv_at hl 0 rfl) ?_
  refine lv_imul hx hb dX11_takeBlock_26 ?_
  refine sx_istore_n (lv2 := [(2, .int r1), (0, .ref (a 0)), (1, .int o1)]) hx hb hF dX11_takeBlock_27 rfl hl (by decide) rfl (fun v11 hF ls hl => ?_)
  exact hB28 N r1 v11 u9 ls (lv_sub hl [2, 1, 0] rfl) hF _ _ hP hS
set_option maxHeartbeats 4000000 in
set_option maxRecDepth 100000 in
theorem kt_X11_enter {N : Nat} {l : Launch} {D : va_G} {a : Nat → Nat} {cI : Nat → ClassId} (hD : ∀ σ, va_D (am_A a) (am_W a cI σ)) {o1 : Int32} {o2 : Int64} {o4 : Int32} {o5 : Int32} {u σ0 : q_St} {r0 : Unit} (hF : fX11_enter N o1 o2 o4 o5 u = some (r0, σ0)) : Met l yX11_enter (Cond.code yX11_enter cX11_enter 7 none :: q_T) ({ frames := 3, cells := 0, slots := 0, locals := 65 } : Room) (q_P D vwCl (am_T cI) (am_W a cI) [.ref (a 0), .int o1, .long o2, .int o4, .int o5] u) (q_Qv D vwCl (am_W a cI) (am_A a) σ0) 0 0 (am_A a) := by
  refine Met.ofW (cc := cX11_enter) (maxL := 7) (ret := none) (by decide) rfl ?_
  intro p e s m args below meth c s₁ B hml hv
  obtain ⟨rfl, hP, hK⟩ := hv
  have hx := B.exec
  have hb := B.bytes
  have hr := B.returns
  have hts := q_ts (atoms_spec (ws := Cond.code yX11_enter cX11_enter 7 none :: q_T) B.pre)
  have hown : s.vm.findClass RX11 = some m.cls := findClass_of_methodNamed B.named
  have hlocks := B.notSynchronized
  have hS : va_S (am_A a) s.heap s.heap [] := va_S.rf
  have hl := lv_entry ([.ref (a 0), .int o1, .long o2, .int o4, .int o5]) (n := 7) (Nat.le_of_ble_eq_true rfl)
  rw [lg_entry_eq]
  generalize (lg_sl ([.ref (a 0), .int o1, .long o2, .int o4, .int o5]) ++ List.replicate (7 - (lg_sl ([.ref (a 0), .int o1, .long o2, .int o4, .int o5])).length) Slot.unset).toArray = ls at hl ⊢
  have hl : lv_has ls 7 [(0, .ref (a 0)), (1, .int o1), (2, .long o2), (4, .int o4), (5, .int o5)] := hl
  have hB89 : ∀ (x1 : Int32) (x2 : Int64) (x4 : Int32) (u : q_St) (ls : Array Slot), lv_has ls 7 [(0, .ref (a 0)), (1, .int x1), (2, .long x2), (4, .int x4)] → fX11_enter_b89 N x1 x2 x4 u = some (r0, σ0) → ∀ (H : Heap) (locs : List Loc), va_P D vwCl (am_W a cI u) H → va_S (am_A a) s.heap H locs → W p l e (headSpec (Cond.code yX11_enter cX11_enter 7 none :: q_T) ({ frames := 3, cells := 0, slots := 0, locals := 65 } : Room)).room s m ([.ref (a 0), .int o1, .long o2, .int o4, .int o5] : List Value).toArray below meth c H locs 0 0 (MQ below (q_Qv D vwCl (am_W a cI) (am_A a) σ0) ([.ref (a 0), .int o1, .long o2, .int o4, .int o5] : List Value).toArray s 0 0 (am_A a)) (F0 m 89 ls []) := by
    intro x1 x2 x4 u ls hl hF _ _ hP hS
    unfold fX11_enter_b89 at hF
    refine lv_aload_n hx hb dX11_enter_89 rfl (lv_at hl 0 rfl) ?_
    refine lv_iload_n hx hb dX11_enter_90 rfl (lv_at hl 1 rfl) ?_
    obtain ⟨r4, u5, hc6, hF⟩ := q_bnd_some hF
    refine sx_ci (Wd := (am_W a cI)) (σ1 := u5) (q_runV (Wd := (am_W a cI)) (σ := u) (q0 := 0) (ci := 11) (T := TX11) (N := 72) (As := [.int x1]) (rest := []) hx hb hml hown hts hK hP (kt_X11_freeSlot hD hc6) cw_X11_318 rfl rfl ⟨Nat.le_of_ble_eq_true rfl, Nat.le_of_ble_eq_true rfl⟩ rfl rfl rfl hl.1 rfl (Nat.le_of_ble_eq_true rfl) dX11_enter_91) hS (fun H locs hP hS => ?_)
    refine lv_istore (lv' := [(6, .int r4), (0, .ref (a 0)), (1, .int x1), (2, .long x2), (4, .int x4)]) hx hb dX11_enter_94 hl (by decide) rfl (fun ls hl => ?_)
    refine lv_aload_n hx hb dX11_enter_96 rfl (lv_at hl 1 rfl) ?_
    refine gm_m_slotNode hx hb hts hown hK hP fl_X11_68 dX11_enter_97 ?_
    refine lv_iload hx hb dX11_enter_100 (lv_at hl 0 rfl) ?_
    refine lv_iload hx hb dX11_enter_102 (lv_at hl 4 rfl) ?_
    refine um_m_slotNode hx hb hK hP hD hS hF dX11_enter_104 (fun u7 H locs hF hP hS => ?_)
    refine lv_aload_n hx hb dX11_enter_105 rfl (lv_at hl 1 rfl) ?_
    refine gm_m_slotName hx hb hts hown hK hP fl_X11_71 dX11_enter_106 ?_
    refine lv_iload hx hb dX11_enter_109 (lv_at hl 0 rfl) ?_
    refine lv_lload_n hx hb dX11_enter_111 rfl (lv_at hl 3 rfl) ?_
    refine um_m_slotName hx hb hK hP hD hS hF dX11_enter_112 (fun u8 H locs hF hP hS => ?_)
    refine lv_aload_n hx hb dX11_enter_113 rfl (lv_at hl 1 rfl) ?_
    refine lv_iload hx hb dX11_enter_114 (lv_at hl 0 rfl) ?_
    obtain ⟨r9, u10, hc11, hF⟩ := q_bnd_some hF
    refine sx_cv (Wd := (am_W a cI)) (σ1 := u10) (q_runV (Wd := (am_W a cI)) (σ := u8) (q0 := 0) (ci := 11) (T := TX11) (N := 72) (As := [.int r4]) (rest := []) hx hb hml hown hts hK hP (kt_X11_soilSlot hD hc11) cw_X11_327 rfl rfl ⟨Nat.le_of_ble_eq_true rfl, Nat.le_of_ble_eq_true rfl⟩ rfl rfl rfl hl.1 rfl (Nat.le_of_ble_eq_true rfl) dX11_enter_116) hS (fun H locs hP hS => ?_)
    exact sx_retv (Wd := (am_W a cI)) (σ := u10) hx hb hr hF hP hS hlocks dX11_enter_119
  have hB55 : ∀ (n : Nat) (x1 : Int32) (x2 : Int64) (x4 : Int32) (x6 : Int32) (u : q_St) (ls : Array Slot), lv_has ls 7 [(0, .ref (a 0)), (1, .int x1), (2, .long x2), (4, .int x4), (6, .int x6)] → q_lp (fX11_enter_b55 N) (fun _ _ _ _ _ => none) n x1 x2 x4 x6 u = some (r0, σ0) → ∀ (H : Heap) (locs : List Loc), va_P D vwCl (am_W a cI u) H → va_S (am_A a) s.heap H locs → W p l e (headSpec (Cond.code yX11_enter cX11_enter 7 none :: q_T) ({ frames := 3, cells := 0, slots := 0, locals := 65 } : Room)).room s m ([.ref (a 0), .int o1, .long o2, .int o4, .int o5] : List Value).toArray below meth c H locs 0 0 (MQ below (q_Qv D vwCl (am_W a cI) (am_A a) σ0) ([.ref (a 0), .int o1, .long o2, .int o4, .int o5] : List Value).toArray s 0 0 (am_A a)) (F0 m 55 ls []) := by
    intro n
    induction n with
    | zero => intro x1 x2 x4 x6 u ls hl hF; exact absurd (show (none : Option (Unit × q_St)) = some _ from hF) (fun h => nomatch h)
    | succ n hi55 =>
      intro x1 x2 x4 x6 u ls hl hF _ _ hP hS
      obtain ⟨ih55, hih⟩ : ∃ q, q = q_lp (fX11_enter_b55 N) (fun _ _ _ _ _ => none) n := ⟨_, rfl⟩
      rw [← hih] at hi55
      have hF : fX11_enter_b55 N (q_lp (fX11_enter_b55 N) (fun _ _ _ _ _ => none) n) x1 x2 x4 x6 u = some (r0, σ0) := hF
      rw [← hih] at hF
      clear hih
      unfold fX11_enter_b55 at hF
      refine lv_iload hx hb dX11_enter_55 (lv_at hl 4 rfl) ?_
      refine lv_bipush (v := 48) hx hb dX11_enter_57 (by decide) ?_
      refine lv_iload_n hx hb dX11_enter_59 rfl (lv_at hl 1 rfl) ?_
      refine lv_imul hx hb dX11_enter_60 ?_
      refine lv_aload_n hx hb dX11_enter_61 rfl (lv_at hl 0 rfl) ?_
      refine lv_iload_n hx hb dX11_enter_62 rfl (lv_at hl 1 rfl) ?_
      obtain ⟨r23, u24, hc25, hF⟩ := q_bnd_some hF
      refine sx_ci (Wd := (am_W a cI)) (σ1 := u24) (q_runV (Wd := (am_W a cI)) (σ := u) (q0 := 0) (ci := 11) (T := TX11) (N := 72) (As := [.int x1]) (rest := [.int (48 * x1), .int x6]) hx hb hml hown hts hK hP (kt_X11_slots hD hc25) cw_X11_315 rfl rfl ⟨Nat.le_of_ble_eq_true rfl, Nat.le_of_ble_eq_true rfl⟩ rfl rfl rfl hl.1 rfl (Nat.le_of_ble_eq_true rfl) dX11_enter_63) hS (fun H locs hP hS => ?_)
      refine lv_iadd hx hb dX11_enter_66 ?_
      refine sx_icmp_ge (tgt := 84) hx hb hF dX11_enter_67 (by decide) (fun hF => ?_) (fun hF => ?_)
      · refine lv_aload_n hx hb dX11_enter_84 rfl (lv_at hl 0 rfl) ?_
        refine lv_iload_n hx hb dX11_enter_85 rfl (lv_at hl 1 rfl) ?_
        obtain ⟨r26, u27, hc28, hF⟩ := q_bnd_some hF
        refine sx_cv (Wd := (am_W a cI)) (σ1 := u27) (q_runV (Wd := (am_W a cI)) (σ := u24) (q0 := 0) (ci := 11) (T := TX11) (N := 72) (As := [.int x1]) (rest := []) hx hb hml hown hts hK hP (kt_X11_soilNode hD hc28) cw_X11_324 rfl rfl ⟨Nat.le_of_ble_eq_true rfl, Nat.le_of_ble_eq_true rfl⟩ rfl rfl rfl hl.1 rfl (Nat.le_of_ble_eq_true rfl) dX11_enter_86) hS (fun H locs hP hS => ?_)
        exact hB89 x1 x2 x4 u27 ls (lv_sub hl [0, 1, 2, 3] rfl) hF _ _ hP hS
      · refine lv_aload_n hx hb dX11_enter_70 rfl (lv_at hl 0 rfl) ?_
        refine gm_m_slotNode hx hb hts hown hK hP fl_X11_68 dX11_enter_71 ?_
        refine lv_iload hx hb dX11_enter_74 (lv_at hl 4 rfl) ?_
        refine lv_iconst (v := (-1)) hx hb dX11_enter_76 (by decide) ?_
        refine um_m_slotNode hx hb hK hP hD hS hF dX11_enter_77 (fun u29 H locs hF hP hS => ?_)
        refine sx_iinc (d := 1) (k := 4) (lv2 := [(0, .ref (a 0)), (1, .int x1), (2, .long x2), (4, .int x4)]) hx hb hF dX11_enter_78 hl rfl (by decide) (by decide) rfl (fun v30 hF ls hl => ?_)
        refine lv_goto (tgt := 55) hx hb dX11_enter_81 (by decide) ?_
        exact hi55 x1 x2 x4 v30 u29 ls (lv_sub hl [1, 2, 3, 4, 0] rfl) hF _ _ hP hS
  unfold fX11_enter at hF
  refine lv_aload_n hx hb dX11_enter_0 rfl (lv_at hl 0 rfl) ?_
  refine lv_iload_n hx hb dX11_enter_1 rfl (lv_at hl 1 rfl) ?_
  obtain ⟨r1, u2, hc3, hF⟩ := q_bnd_some hF
  refine sx_ci (Wd := (am_W a cI)) (σ1 := u2) (q_runV (Wd := (am_W a cI)) (σ := u) (q0 := 0) (ci := 11) (T := TX11) (N := 72) (As := [.int o1]) (rest := []) hx hb hml hown hts hK hP (kt_X11_freeSlot hD hc3) cw_X11_318 rfl rfl ⟨Nat.le_of_ble_eq_true rfl, Nat.le_of_ble_eq_true rfl⟩ rfl rfl rfl hl.1 rfl (Nat.le_of_ble_eq_true rfl) dX11_enter_2) hS (fun H locs hP hS => ?_)
  refine lv_iconst (v := (-1)) hx hb dX11_enter_5 (by decide) ?_
  refine sx_icmp_ne (tgt := 89) hx hb hF dX11_enter_6 (by decide) (fun hF => ?_) (fun hF => ?_)
  · exact hB89 o1 o2 o4 u2 ls (lv_sub hl [0, 1, 2, 3] rfl) hF _ _ hP hS
  · refine lv_aload_n hx hb dX11_enter_9 rfl (lv_at hl 0 rfl) ?_
    refine gm_m_block hx hb hts hown hK hP fl_X11_65 dX11_enter_10 ?_
    refine lv_bipush (v := 12) hx hb dX11_enter_13 (by decide) ?_
    refine lv_iload_n hx hb dX11_enter_15 rfl (lv_at hl 1 rfl) ?_
    refine lv_imul hx hb dX11_enter_16 ?_
    refine lv_aload_n hx hb dX11_enter_17 rfl (lv_at hl 0 rfl) ?_
    refine gm_m_many hx hb hts hown hK hP fl_X11_49 dX11_enter_18 ?_
    refine lv_iload_n hx hb dX11_enter_21 rfl (lv_at hl 1 rfl) ?_
    refine lm_m_many hx hb hK hP hF dX11_enter_22 (fun v12 hF => ?_)
    refine lv_iadd hx hb dX11_enter_23 ?_
    refine lv_aload_n hx hb dX11_enter_24 rfl (lv_at hl 0 rfl) ?_
    refine lv_iload hx hb dX11_enter_25 (lv_at hl 4 rfl) ?_
    obtain ⟨r13, u14, hc15, hF⟩ := q_bnd_some hF
    refine sx_ci (Wd := (am_W a cI)) (σ1 := u14) (q_runV (Wd := (am_W a cI)) (σ := u2) (q0 := 0) (ci := 11) (T := TX11) (N := 72) (As := [.int o5]) (rest := [.int ((12 * o1) + v12), .ref (a 14)]) hx hb hml hown hts hK hP (kt_X11_takeBlock hD hc15) cw_X11_321 rfl rfl ⟨Nat.le_of_ble_eq_true rfl, Nat.le_of_ble_eq_true rfl⟩ rfl rfl rfl hl.1 rfl (Nat.le_of_ble_eq_true rfl) dX11_enter_27) hS (fun H locs hP hS => ?_)
    refine um_m_block hx hb hK hP hD hS hF dX11_enter_30 (fun u16 H locs hF hP hS => ?_)
    refine lv_aload_n hx hb dX11_enter_31 rfl (lv_at hl 0 rfl) ?_
    refine gm_m_many hx hb hts hown hK hP fl_X11_49 dX11_enter_32 ?_
    refine lv_iload_n hx hb dX11_enter_35 rfl (lv_at hl 1 rfl) ?_
    refine lv_dup2_11 hx hb dX11_enter_36 rfl rfl ?_
    refine lm_m_many hx hb hK hP hF dX11_enter_37 (fun v17 hF => ?_)
    refine lv_iconst (v := 1) hx hb dX11_enter_38 (by decide) ?_
    refine lv_iadd hx hb dX11_enter_39 ?_
    refine um_m_many hx hb hK hP hD hS hF dX11_enter_40 (fun u18 H locs hF hP hS => ?_)
    refine lv_bipush (v := 48) hx hb dX11_enter_41 (by decide) ?_
    refine lv_iload_n hx hb dX11_enter_43 rfl (lv_at hl 1 rfl) ?_
    refine lv_imul hx hb dX11_enter_44 ?_
    refine lv_aload_n hx hb dX11_enter_45 rfl (lv_at hl 0 rfl) ?_
    refine lv_iload_n hx hb dX11_enter_46 rfl (lv_at hl 1 rfl) ?_
    obtain ⟨r19, u20, hc21, hF⟩ := q_bnd_some hF
    refine sx_ci (Wd := (am_W a cI)) (σ1 := u20) (q_runV (Wd := (am_W a cI)) (σ := u18) (q0 := 0) (ci := 11) (T := TX11) (N := 72) (As := [.int o1]) (rest := [.int (48 * o1)]) hx hb hml hown hts hK hP (kt_X11_slots hD hc21) cw_X11_315 rfl rfl ⟨Nat.le_of_ble_eq_true rfl, Nat.le_of_ble_eq_true rfl⟩ rfl rfl rfl hl.1 rfl (Nat.le_of_ble_eq_true rfl) dX11_enter_47) hS (fun H locs hP hS => ?_)
    refine lv_iadd hx hb dX11_enter_50 ?_
    refine lv_iconst (v := 4) hx hb dX11_enter_51 (by decide) ?_
    refine lv_isub hx hb dX11_enter_52 ?_
    refine sx_istore (lv2 := [(0, .ref (a 0)), (1, .int o1), (2, .long o2), (4, .int o4), (5, .int o5)]) hx hb hF dX11_enter_53 hl (by decide) rfl (fun v22 hF ls hl => ?_)
    exact hB55 N o1 o2 o4 v22 u20 ls (lv_sub hl [1, 2, 3, 4, 0] rfl) hF _ _ hP hS
set_option maxHeartbeats 4000000 in
set_option maxRecDepth 100000 in
theorem kt_X11_born {N : Nat} {l : Launch} {D : va_G} {a : Nat → Nat} {cI : Nat → ClassId} (hD : ∀ σ, va_D (am_A a) (am_W a cI σ)) {o1 : Int32} {o2 : Int32} {o3 : Int32} {u σ0 : q_St} {r0 : Int32} (hF : fX11_born N o1 o2 o3 u = some (r0, σ0)) : Met l yX11_born (Cond.code yX11_born cX11_born 4 (some .int) :: q_T) ({ frames := 2, cells := 0, slots := 0, locals := 42 } : Room) (q_P D vwCl (am_T cI) (am_W a cI) [.ref (a 0), .int o1, .int o2, .int o3] u) (q_Qi D vwCl (am_W a cI) (am_A a) r0 σ0) 0 0 (am_A a) := by
  refine Met.ofW (cc := cX11_born) (maxL := 4) (ret := (some .int)) (by decide) rfl ?_
  intro p e s m args below meth c s₁ B hml hv
  obtain ⟨rfl, hP, hK⟩ := hv
  have hx := B.exec
  have hb := B.bytes
  have hr := B.returns
  have hts := q_ts (atoms_spec (ws := Cond.code yX11_born cX11_born 4 (some .int) :: q_T) B.pre)
  have hown : s.vm.findClass RX11 = some m.cls := findClass_of_methodNamed B.named
  have hlocks := B.notSynchronized
  have hS : va_S (am_A a) s.heap s.heap [] := va_S.rf
  have hl := lv_entry ([.ref (a 0), .int o1, .int o2, .int o3]) (n := 4) (Nat.le_of_ble_eq_true rfl)
  rw [lg_entry_eq]
  generalize (lg_sl ([.ref (a 0), .int o1, .int o2, .int o3]) ++ List.replicate (4 - (lg_sl ([.ref (a 0), .int o1, .int o2, .int o3])).length) Slot.unset).toArray = ls at hl ⊢
  have hl : lv_has ls 4 [(0, .ref (a 0)), (1, .int o1), (2, .int o2), (3, .int o3)] := hl
  have hB71 : ∀ (x1 : Int32) (y0 : Int32) (y1 : Int32) (u : q_St) (ls : Array Slot), lv_has ls 4 [(0, .ref (a 0)), (1, .int x1)] → fX11_born_b71 N x1 y0 y1 u = some (r0, σ0) → ∀ (H : Heap) (locs : List Loc), va_P D vwCl (am_W a cI u) H → va_S (am_A a) s.heap H locs → W p l e (headSpec (Cond.code yX11_born cX11_born 4 (some .int) :: q_T) ({ frames := 2, cells := 0, slots := 0, locals := 42 } : Room)).room s m ([.ref (a 0), .int o1, .int o2, .int o3] : List Value).toArray below meth c H locs 0 0 (MQ below (q_Qi D vwCl (am_W a cI) (am_A a) r0 σ0) ([.ref (a 0), .int o1, .int o2, .int o3] : List Value).toArray s 0 0 (am_A a)) (F0 m 71 ls [.int y0, .int y1, .ref (a 13)]) := by
    intro x1 y0 y1 u ls hl hF _ _ hP hS
    unfold fX11_born_b71 at hF
    refine um_m_bits hx hb hK hP hD hS hF dX11_born_71 (fun u7 H locs hF hP hS => ?_)
    refine lv_aload_n hx hb dX11_born_72 rfl (lv_at hl 0 rfl) ?_
    refine lv_iload_n hx hb dX11_born_73 rfl (lv_at hl 1 rfl) ?_
    obtain ⟨r8, u9, hc10, hF⟩ := q_bnd_some hF
    refine sx_cv (Wd := (am_W a cI)) (σ1 := u9) (q_runV (Wd := (am_W a cI)) (σ := u7) (q0 := 0) (ci := 11) (T := TX11) (N := 72) (As := [.int x1]) (rest := []) hx hb hml hown hts hK hP (kt_X11_soilNode hD hc10) cw_X11_324 rfl rfl ⟨Nat.le_of_ble_eq_true rfl, Nat.le_of_ble_eq_true rfl⟩ rfl rfl rfl hl.1 rfl (Nat.le_of_ble_eq_true rfl) dX11_born_74) hS (fun H locs hP hS => ?_)
    refine lv_iload_n hx hb dX11_born_77 rfl (lv_at hl 1 rfl) ?_
    exact sx_reti (Wd := (am_W a cI)) (σ := u9) hx hb hr hF hP hS hlocks dX11_born_78
  have hB29 : ∀ (x1 : Int32) (x2 : Int32) (y0 : Int32) (y1 : Int32) (u : q_St) (ls : Array Slot), lv_has ls 4 [(0, .ref (a 0)), (1, .int x1), (2, .int x2)] → fX11_born_b29 N x1 x2 y0 y1 u = some (r0, σ0) → ∀ (H : Heap) (locs : List Loc), va_P D vwCl (am_W a cI u) H → va_S (am_A a) s.heap H locs → W p l e (headSpec (Cond.code yX11_born cX11_born 4 (some .int) :: q_T) ({ frames := 2, cells := 0, slots := 0, locals := 42 } : Room)).room s m ([.ref (a 0), .int o1, .int o2, .int o3] : List Value).toArray below meth c H locs 0 0 (MQ below (q_Qi D vwCl (am_W a cI) (am_A a) r0 σ0) ([.ref (a 0), .int o1, .int o2, .int o3] : List Value).toArray s 0 0 (am_A a)) (F0 m 29 ls [.int y0, .int y1, .ref (a 8)]) := by
    intro x1 x2 y0 y1 u ls hl hF _ _ hP hS
    unfold fX11_born_b29 at hF
    refine um_m_parent hx hb hK hP hD hS hF dX11_born_29 (fun u3 H locs hF hP hS => ?_)
    refine lv_aload_n hx hb dX11_born_30 rfl (lv_at hl 0 rfl) ?_
    refine gm_m_many hx hb hts hown hK hP fl_X11_49 dX11_born_31 ?_
    refine lv_iload_n hx hb dX11_born_34 rfl (lv_at hl 1 rfl) ?_
    refine lv_iconst (v := 0) hx hb dX11_born_35 (by decide) ?_
    refine um_m_many hx hb hK hP hD hS hF dX11_born_36 (fun u4 H locs hF hP hS => ?_)
    refine lv_aload_n hx hb dX11_born_37 rfl (lv_at hl 0 rfl) ?_
    refine gm_m_links hx hb hts hown hK hP fl_X11_75 dX11_born_38 ?_
    refine lv_iload_n hx hb dX11_born_41 rfl (lv_at hl 1 rfl) ?_
    refine lv_iconst (v := 1) hx hb dX11_born_42 (by decide) ?_
    refine um_m_links hx hb hK hP hD hS hF dX11_born_43 (fun u5 H locs hF hP hS => ?_)
    refine lv_aload_n hx hb dX11_born_44 rfl (lv_at hl 0 rfl) ?_
    refine gm_m_owner hx hb hts hown hK hP fl_X11_59 dX11_born_45 ?_
    refine lv_iload_n hx hb dX11_born_48 rfl (lv_at hl 1 rfl) ?_
    refine lv_aload_n hx hb dX11_born_49 rfl (lv_at hl 0 rfl) ?_
    refine gm_m_who hx hb hts hown hK hP fl_X11_330 dX11_born_50 ?_
    refine um_m_owner hx hb hK hP hD hS hF dX11_born_53 (fun u6 H locs hF hP hS => ?_)
    refine lv_aload_n hx hb dX11_born_54 rfl (lv_at hl 0 rfl) ?_
    refine gm_m_bits hx hb hts hown hK hP fl_X11_62 dX11_born_55 ?_
    refine lv_iload_n hx hb dX11_born_58 rfl (lv_at hl 1 rfl) ?_
    refine lv_iload_n hx hb dX11_born_59 rfl (lv_at hl 2 rfl) ?_
    refine lv_iconst (v := 2) hx hb dX11_born_60 (by decide) ?_
    refine sx_icmp_ne (tgt := 69) hx hb hF dX11_born_61 (by decide) (fun hF => ?_) (fun hF => ?_)
    · refine lv_bipush (v := 52) hx hb dX11_born_69 (by decide) ?_
      exact hB71 x1 52 x1 u6 ls (lv_sub hl [0, 1] rfl) hF _ _ hP hS
    · refine lv_bipush (v := 61) hx hb dX11_born_64 (by decide) ?_
      refine lv_goto (tgt := 71) hx hb dX11_born_66 (by decide) ?_
      exact hB71 x1 61 x1 u6 ls (lv_sub hl [0, 1] rfl) hF _ _ hP hS
  unfold fX11_born at hF
  refine lv_aload_n hx hb dX11_born_0 rfl (lv_at hl 0 rfl) ?_
  refine gm_m_kind hx hb hts hown hK hP fl_X11_40 dX11_born_1 ?_
  refine lv_iload_n hx hb dX11_born_4 rfl (lv_at hl 1 rfl) ?_
  refine lv_iload_n hx hb dX11_born_5 rfl (lv_at hl 2 rfl) ?_
  refine um_m_kind hx hb hK hP hD hS hF dX11_born_6 (fun u1 H locs hF hP hS => ?_)
  refine lv_aload_n hx hb dX11_born_7 rfl (lv_at hl 0 rfl) ?_
  refine gm_m_size hx hb hts hown hK hP fl_X11_43 dX11_born_8 ?_
  refine lv_iload_n hx hb dX11_born_11 rfl (lv_at hl 1 rfl) ?_
  refine lv_iconst (v := 0) hx hb dX11_born_12 (by decide) ?_
  refine um_m_size hx hb hK hP hD hS hF dX11_born_13 (fun u2 H locs hF hP hS => ?_)
  refine lv_aload_n hx hb dX11_born_14 rfl (lv_at hl 0 rfl) ?_
  refine gm_m_parent hx hb hts hown hK hP fl_X11_46 dX11_born_15 ?_
  refine lv_iload_n hx hb dX11_born_18 rfl (lv_at hl 1 rfl) ?_
  refine lv_iload_n hx hb dX11_born_19 rfl (lv_at hl 2 rfl) ?_
  refine lv_iconst (v := 2) hx hb dX11_born_20 (by decide) ?_
  refine sx_icmp_ne (tgt := 28) hx hb hF dX11_born_21 (by decide) (fun hF => ?_) (fun hF => ?_)
  · refine lv_iconst (v := 0) hx hb dX11_born_28 (by decide) ?_
    exact hB29 o1 o2 0 o1 u2 ls (lv_sub hl [0, 1, 2] rfl) hF _ _ hP hS
  · refine lv_iload_n hx hb dX11_born_24 rfl (lv_at hl 3 rfl) ?_
    refine lv_goto (tgt := 29) hx hb dX11_born_25 (by decide) ?_
    exact hB29 o1 o2 o3 o1 u2 ls (lv_sub hl [0, 1, 2] rfl) hF _ _ hP hS
set_option maxHeartbeats 4000000 in
set_option maxRecDepth 100000 in
theorem kt_X11_create {N : Nat} {l : Launch} {D : va_G} {a : Nat → Nat} {cI : Nat → ClassId} (hD : ∀ σ, va_D (am_A a) (am_W a cI σ)) {o1 : Int32} {o2 : Int64} {o4 : Int32} {u σ0 : q_St} {r0 : Int32} (hF : fX11_create N o1 o2 o4 u = some (r0, σ0)) : Met l yX11_create (Cond.code yX11_create cX11_create 7 (some .int) :: q_T) ({ frames := 9, cells := 0, slots := 0, locals := 196 } : Room) (q_P D vwCl (am_T cI) (am_W a cI) [.ref (a 0), .int o1, .long o2, .int o4] u) (q_Qi D vwCl (am_W a cI) (am_A a) r0 σ0) 0 0 (am_A a) := by
  refine Met.ofW (cc := cX11_create) (maxL := 7) (ret := (some .int)) (by decide) rfl ?_
  intro p e s m args below meth c s₁ B hml hv
  obtain ⟨rfl, hP, hK⟩ := hv
  have hx := B.exec
  have hb := B.bytes
  have hr := B.returns
  have hts := q_ts (atoms_spec (ws := Cond.code yX11_create cX11_create 7 (some .int) :: q_T) B.pre)
  have hown : s.vm.findClass RX11 = some m.cls := findClass_of_methodNamed B.named
  have hlocks := B.notSynchronized
  have hS : va_S (am_A a) s.heap s.heap [] := va_S.rf
  have hl := lv_entry ([.ref (a 0), .int o1, .long o2, .int o4]) (n := 7) (Nat.le_of_ble_eq_true rfl)
  rw [lg_entry_eq]
  generalize (lg_sl ([.ref (a 0), .int o1, .long o2, .int o4]) ++ List.replicate (7 - (lg_sl ([.ref (a 0), .int o1, .long o2, .int o4])).length) Slot.unset).toArray = ls at hl ⊢
  have hl : lv_has ls 7 [(0, .ref (a 0)), (1, .int o1), (2, .long o2), (4, .int o4)] := hl
  unfold fX11_create at hF
  refine lv_aload_n hx hb dX11_create_0 rfl (lv_at hl 0 rfl) ?_
  obtain ⟨r1, u2, hc3, hF⟩ := q_bnd_some hF
  refine sx_ci (Wd := (am_W a cI)) (σ1 := u2) (q_runV (Wd := (am_W a cI)) (σ := u) (q0 := 0) (ci := 11) (T := TX11) (N := 72) (As := []) (rest := []) hx hb hml hown hts hK hP (kt_X11_begins hD hc3) cw_X11_333 rfl rfl ⟨Nat.le_of_ble_eq_true rfl, Nat.le_of_ble_eq_true rfl⟩ rfl rfl rfl hl.1 rfl (Nat.le_of_ble_eq_true rfl) dX11_create_1) hS (fun H locs hP hS => ?_)
  refine sx_if_ne (tgt := 10) hx hb hF dX11_create_4 (by decide) (fun hF => ?_) (fun hF => ?_)
  · refine lv_aload_n hx hb dX11_create_10 rfl (lv_at hl 0 rfl) ?_
    refine lv_iload_n hx hb dX11_create_11 rfl (lv_at hl 1 rfl) ?_
    refine lv_lload_n hx hb dX11_create_12 rfl (lv_at hl 2 rfl) ?_
    obtain ⟨r4, u5, hc6, hF⟩ := q_bnd_some hF
    refine sx_ci (Wd := (am_W a cI)) (σ1 := u5) (q_runV (Wd := (am_W a cI)) (σ := u2) (q0 := 0) (ci := 11) (T := TX11) (N := 72) (As := [.int o1, .long o2]) (rest := []) hx hb hml hown hts hK hP (kt_X11_refusal hD hc6) cw_X11_353 rfl rfl ⟨Nat.le_of_ble_eq_true rfl, Nat.le_of_ble_eq_true rfl⟩ rfl rfl rfl hl.1 rfl (Nat.le_of_ble_eq_true rfl) dX11_create_13) hS (fun H locs hP hS => ?_)
    refine lv_istore (lv' := [(5, .int r4), (0, .ref (a 0)), (1, .int o1), (2, .long o2), (4, .int o4)]) hx hb dX11_create_16 hl (by decide) rfl (fun ls hl => ?_)
    refine lv_iload hx hb dX11_create_18 (lv_at hl 0 rfl) ?_
    refine sx_if_eq (tgt := 26) hx hb hF dX11_create_20 (by decide) (fun hF => ?_) (fun hF => ?_)
    · refine lv_aload_n hx hb dX11_create_26 rfl (lv_at hl 1 rfl) ?_
      obtain ⟨r7, u8, hc9, hF⟩ := q_bnd_some hF
      refine sx_ci (Wd := (am_W a cI)) (σ1 := u8) (q_runV (Wd := (am_W a cI)) (σ := u5) (q0 := 0) (ci := 11) (T := TX11) (N := 72) (As := []) (rest := []) hx hb hml hown hts hK hP (kt_X11_freeNode hD hc9) cw_X11_356 rfl rfl ⟨Nat.le_of_ble_eq_true rfl, Nat.le_of_ble_eq_true rfl⟩ rfl rfl rfl hl.1 rfl (Nat.le_of_ble_eq_true rfl) dX11_create_27) hS (fun H locs hP hS => ?_)
      refine lv_istore (lv' := [(6, .int r7), (5, .int r4), (0, .ref (a 0)), (1, .int o1), (2, .long o2), (4, .int o4)]) hx hb dX11_create_30 hl (by decide) rfl (fun ls hl => ?_)
      refine lv_iload hx hb dX11_create_32 (lv_at hl 0 rfl) ?_
      refine lv_iconst (v := (-1)) hx hb dX11_create_34 (by decide) ?_
      refine sx_icmp_eq (tgt := 47) hx hb hF dX11_create_35 (by decide) (fun hF => ?_) (fun hF => ?_)
      · refine lv_bipush (v := (-16)) hx hb dX11_create_47 (by decide) ?_
        exact sx_reti (Wd := (am_W a cI)) (σ := u8) hx hb hr hF hP hS hlocks dX11_create_49
      · refine lv_aload_n hx hb dX11_create_38 rfl (lv_at hl 2 rfl) ?_
        refine lv_iload_n hx hb dX11_create_39 rfl (lv_at hl 3 rfl) ?_
        refine lv_iconst (v := (-1)) hx hb dX11_create_40 (by decide) ?_
        obtain ⟨r10, u11, hc12, hF⟩ := q_bnd_some hF
        refine sx_ci (Wd := (am_W a cI)) (σ1 := u11) (q_runV (Wd := (am_W a cI)) (σ := u8) (q0 := 0) (ci := 11) (T := TX11) (N := 72) (As := [.int o1, .int (-1)]) (rest := []) hx hb hml hown hts hK hP (kt_X11_hasRoom hD hc12) cw_X11_359 rfl rfl ⟨Nat.le_of_ble_eq_true rfl, Nat.le_of_ble_eq_true rfl⟩ rfl rfl rfl hl.1 rfl (Nat.le_of_ble_eq_true rfl) dX11_create_41) hS (fun H locs hP hS => ?_)
        refine sx_if_ne (tgt := 50) hx hb hF dX11_create_44 (by decide) (fun hF => ?_) (fun hF => ?_)
        · refine lv_aload_n hx hb dX11_create_50 rfl (lv_at hl 2 rfl) ?_
          refine lv_iload_n hx hb dX11_create_51 rfl (lv_at hl 3 rfl) ?_
          refine lv_lload_n hx hb dX11_create_52 rfl (lv_at hl 4 rfl) ?_
          refine lv_iload hx hb dX11_create_53 (lv_at hl 0 rfl) ?_
          refine lv_iconst (v := (-1)) hx hb dX11_create_55 (by decide) ?_
          obtain ⟨r13, u14, hc15, hF⟩ := q_bnd_some hF
          refine sx_cv (Wd := (am_W a cI)) (σ1 := u14) (q_runV (Wd := (am_W a cI)) (σ := u11) (q0 := 0) (ci := 11) (T := TX11) (N := 72) (As := [.int o1, .long o2, .int r7, .int (-1)]) (rest := []) hx hb hml hown hts hK hP (kt_X11_enter hD hc15) cw_X11_362 rfl rfl ⟨Nat.le_of_ble_eq_true rfl, Nat.le_of_ble_eq_true rfl⟩ rfl rfl rfl hl.1 rfl (Nat.le_of_ble_eq_true rfl) dX11_create_56) hS (fun H locs hP hS => ?_)
          refine lv_aload_n hx hb dX11_create_59 rfl (lv_at hl 2 rfl) ?_
          refine lv_iload hx hb dX11_create_60 (lv_at hl 0 rfl) ?_
          refine lv_iload hx hb dX11_create_62 (lv_at hl 5 rfl) ?_
          refine lv_iload_n hx hb dX11_create_64 rfl (lv_at hl 3 rfl) ?_
          obtain ⟨r16, u17, hc18, hF⟩ := q_bnd_some hF
          refine sx_ci (Wd := (am_W a cI)) (σ1 := u17) (q_runV (Wd := (am_W a cI)) (σ := u14) (q0 := 0) (ci := 11) (T := TX11) (N := 72) (As := [.int r7, .int o4, .int o1]) (rest := []) hx hb hml hown hts hK hP (kt_X11_born hD hc18) cw_X11_366 rfl rfl ⟨Nat.le_of_ble_eq_true rfl, Nat.le_of_ble_eq_true rfl⟩ rfl rfl rfl hl.1 rfl (Nat.le_of_ble_eq_true rfl) dX11_create_65) hS (fun H locs hP hS => ?_)
          exact sx_reti (Wd := (am_W a cI)) (σ := u17) hx hb hr hF hP hS hlocks dX11_create_68
        · refine lv_bipush (v := (-16)) hx hb dX11_create_47 (by decide) ?_
          exact sx_reti (Wd := (am_W a cI)) (σ := u11) hx hb hr hF hP hS hlocks dX11_create_49
    · refine lv_iload hx hb dX11_create_23 (lv_at hl 0 rfl) ?_
      exact sx_reti (Wd := (am_W a cI)) (σ := u5) hx hb hr hF hP hS hlocks dX11_create_25
  · refine lv_bipush (v := (-99)) hx hb dX11_create_7 (by decide) ?_
    exact sx_reti (Wd := (am_W a cI)) (σ := u2) hx hb hr hF hP hS hlocks dX11_create_9
set_option maxHeartbeats 4000000 in
set_option maxRecDepth 100000 in
theorem kt_X11_make {N : Nat} {l : Launch} {D : va_G} {a : Nat → Nat} {cI : Nat → ClassId} (hD : ∀ σ, va_D (am_A a) (am_W a cI σ)) {o1 : Int32} {o2 : Int64} {u σ0 : q_St} {r0 : Int32} (hF : fX11_make N o1 o2 u = some (r0, σ0)) : Met l yX11_make (Cond.code yX11_make cX11_make 4 (some .int) :: q_T) ({ frames := 10, cells := 0, slots := 0, locals := 222 } : Room) (q_P D vwCl (am_T cI) (am_W a cI) [.ref (a 0), .int o1, .long o2] u) (q_Qi D vwCl (am_W a cI) (am_A a) r0 σ0) 0 0 (am_A a) := by
  refine Met.ofW (cc := cX11_make) (maxL := 4) (ret := (some .int)) (by decide) rfl ?_
  intro p e s m args below meth c s₁ B hml hv
  obtain ⟨rfl, hP, hK⟩ := hv
  have hx := B.exec
  have hb := B.bytes
  have hr := B.returns
  have hts := q_ts (atoms_spec (ws := Cond.code yX11_make cX11_make 4 (some .int) :: q_T) B.pre)
  have hown : s.vm.findClass RX11 = some m.cls := findClass_of_methodNamed B.named
  have hlocks := B.notSynchronized
  have hS : va_S (am_A a) s.heap s.heap [] := va_S.rf
  have hl := lv_entry ([.ref (a 0), .int o1, .long o2]) (n := 4) (Nat.le_of_ble_eq_true rfl)
  rw [lg_entry_eq]
  generalize (lg_sl ([.ref (a 0), .int o1, .long o2]) ++ List.replicate (4 - (lg_sl ([.ref (a 0), .int o1, .long o2])).length) Slot.unset).toArray = ls at hl ⊢
  have hl : lv_has ls 4 [(0, .ref (a 0)), (1, .int o1), (2, .long o2)] := hl
  unfold fX11_make at hF
  refine lv_aload_n hx hb dX11_make_0 rfl (lv_at hl 0 rfl) ?_
  refine lv_iload_n hx hb dX11_make_1 rfl (lv_at hl 1 rfl) ?_
  refine lv_lload_n hx hb dX11_make_2 rfl (lv_at hl 2 rfl) ?_
  refine lv_iconst (v := 1) hx hb dX11_make_3 (by decide) ?_
  obtain ⟨r1, u2, hc3, hF⟩ := q_bnd_some hF
  refine sx_ci (Wd := (am_W a cI)) (σ1 := u2) (q_runV (Wd := (am_W a cI)) (σ := u) (q0 := 0) (ci := 11) (T := TX11) (N := 72) (As := [.int o1, .long o2, .int 1]) (rest := []) hx hb hml hown hts hK hP (kt_X11_create hD hc3) cw_X11_369 rfl rfl ⟨Nat.le_of_ble_eq_true rfl, Nat.le_of_ble_eq_true rfl⟩ rfl rfl rfl hl.1 rfl (Nat.le_of_ble_eq_true rfl) dX11_make_4) hS (fun H locs hP hS => ?_)
  exact sx_reti (Wd := (am_W a cI)) (σ := u2) hx hb hr hF hP hS hlocks dX11_make_7
set_option maxHeartbeats 4000000 in
set_option maxRecDepth 100000 in
theorem kt_X11_dir {N : Nat} {l : Launch} {D : va_G} {a : Nat → Nat} {cI : Nat → ClassId} (hD : ∀ σ, va_D (am_A a) (am_W a cI σ)) {o1 : Int32} {o2 : Int64} {u σ0 : q_St} {r0 : Int32} (hF : fX11_dir N o1 o2 u = some (r0, σ0)) : Met l yX11_dir (Cond.code yX11_dir cX11_dir 4 (some .int) :: q_T) ({ frames := 10, cells := 0, slots := 0, locals := 222 } : Room) (q_P D vwCl (am_T cI) (am_W a cI) [.ref (a 0), .int o1, .long o2] u) (q_Qi D vwCl (am_W a cI) (am_A a) r0 σ0) 0 0 (am_A a) := by
  refine Met.ofW (cc := cX11_dir) (maxL := 4) (ret := (some .int)) (by decide) rfl ?_
  intro p e s m args below meth c s₁ B hml hv
  obtain ⟨rfl, hP, hK⟩ := hv
  have hx := B.exec
  have hb := B.bytes
  have hr := B.returns
  have hts := q_ts (atoms_spec (ws := Cond.code yX11_dir cX11_dir 4 (some .int) :: q_T) B.pre)
  have hown : s.vm.findClass RX11 = some m.cls := findClass_of_methodNamed B.named
  have hlocks := B.notSynchronized
  have hS : va_S (am_A a) s.heap s.heap [] := va_S.rf
  have hl := lv_entry ([.ref (a 0), .int o1, .long o2]) (n := 4) (Nat.le_of_ble_eq_true rfl)
  rw [lg_entry_eq]
  generalize (lg_sl ([.ref (a 0), .int o1, .long o2]) ++ List.replicate (4 - (lg_sl ([.ref (a 0), .int o1, .long o2])).length) Slot.unset).toArray = ls at hl ⊢
  have hl : lv_has ls 4 [(0, .ref (a 0)), (1, .int o1), (2, .long o2)] := hl
  unfold fX11_dir at hF
  refine lv_aload_n hx hb dX11_dir_0 rfl (lv_at hl 0 rfl) ?_
  refine lv_iload_n hx hb dX11_dir_1 rfl (lv_at hl 1 rfl) ?_
  refine lv_lload_n hx hb dX11_dir_2 rfl (lv_at hl 2 rfl) ?_
  refine lv_iconst (v := 2) hx hb dX11_dir_3 (by decide) ?_
  obtain ⟨r1, u2, hc3, hF⟩ := q_bnd_some hF
  refine sx_ci (Wd := (am_W a cI)) (σ1 := u2) (q_runV (Wd := (am_W a cI)) (σ := u) (q0 := 0) (ci := 11) (T := TX11) (N := 72) (As := [.int o1, .long o2, .int 2]) (rest := []) hx hb hml hown hts hK hP (kt_X11_create hD hc3) cw_X11_369 rfl rfl ⟨Nat.le_of_ble_eq_true rfl, Nat.le_of_ble_eq_true rfl⟩ rfl rfl rfl hl.1 rfl (Nat.le_of_ble_eq_true rfl) dX11_dir_4) hS (fun H locs hP hS => ?_)
  exact sx_reti (Wd := (am_W a cI)) (σ := u2) hx hb hr hF hP hS hlocks dX11_dir_7
set_option maxHeartbeats 4000000 in
set_option maxRecDepth 100000 in
theorem kt_X11_point {N : Nat} {l : Launch} {D : va_G} {a : Nat → Nat} {cI : Nat → ClassId} (hD : ∀ σ, va_D (am_A a) (am_W a cI σ)) {o1 : Int32} {o2 : Int64} {u σ0 : q_St} {r0 : Int32} (hF : fX11_point N o1 o2 u = some (r0, σ0)) : Met l yX11_point (Cond.code yX11_point cX11_point 8 (some .int) :: q_T) ({ frames := 9, cells := 0, slots := 0, locals := 196 } : Room) (q_P D vwCl (am_T cI) (am_W a cI) [.ref (a 0), .int o1, .long o2] u) (q_Qi D vwCl (am_W a cI) (am_A a) r0 σ0) 0 0 (am_A a) := by
  refine Met.ofW (cc := cX11_point) (maxL := 8) (ret := (some .int)) (by decide) rfl ?_
  intro p e s m args below meth c s₁ B hml hv
  obtain ⟨rfl, hP, hK⟩ := hv
  have hx := B.exec
  have hb := B.bytes
  have hr := B.returns
  have hts := q_ts (atoms_spec (ws := Cond.code yX11_point cX11_point 8 (some .int) :: q_T) B.pre)
  have hown : s.vm.findClass RX11 = some m.cls := findClass_of_methodNamed B.named
  have hlocks := B.notSynchronized
  have hS : va_S (am_A a) s.heap s.heap [] := va_S.rf
  have hl := lv_entry ([.ref (a 0), .int o1, .long o2]) (n := 8) (Nat.le_of_ble_eq_true rfl)
  rw [lg_entry_eq]
  generalize (lg_sl ([.ref (a 0), .int o1, .long o2]) ++ List.replicate (8 - (lg_sl ([.ref (a 0), .int o1, .long o2])).length) Slot.unset).toArray = ls at hl ⊢
  have hl : lv_has ls 8 [(0, .ref (a 0)), (1, .int o1), (2, .long o2)] := hl
  have hB106 : ∀ (n : Nat) (x4 : Int32) (x6 : Int32) (x7 : Int32) (u : q_St) (ls : Array Slot), lv_has ls 8 [(0, .ref (a 0)), (4, .int x4), (6, .int x6), (7, .int x7)] → q_lp (fX11_point_b106 N) (fun _ _ _ _ => none) n x4 x6 x7 u = some (r0, σ0) → ∀ (H : Heap) (locs : List Loc), va_P D vwCl (am_W a cI u) H → va_S (am_A a) s.heap H locs → W p l e (headSpec (Cond.code yX11_point cX11_point 8 (some .int) :: q_T) ({ frames := 9, cells := 0, slots := 0, locals := 196 } : Room)).room s m ([.ref (a 0), .int o1, .long o2] : List Value).toArray below meth c H locs 0 0 (MQ below (q_Qi D vwCl (am_W a cI) (am_A a) r0 σ0) ([.ref (a 0), .int o1, .long o2] : List Value).toArray s 0 0 (am_A a)) (F0 m 106 ls []) := by
    intro n
    induction n with
    | zero => intro x4 x6 x7 u ls hl hF; exact absurd (show (none : Option (Int32 × q_St)) = some _ from hF) (fun h => nomatch h)
    | succ n hi106 =>
      intro x4 x6 x7 u ls hl hF _ _ hP hS
      obtain ⟨ih106, hih⟩ : ∃ q, q = q_lp (fX11_point_b106 N) (fun _ _ _ _ => none) n := ⟨_, rfl⟩
      rw [← hih] at hi106
      have hF : fX11_point_b106 N (q_lp (fX11_point_b106 N) (fun _ _ _ _ => none) n) x4 x6 x7 u = some (r0, σ0) := hF
      rw [← hih] at hF
      clear hih
      unfold fX11_point_b106 at hF
      refine lv_iload hx hb dX11_point_106 (lv_at hl 3 rfl) ?_
      refine lv_iload hx hb dX11_point_108 (lv_at hl 1 rfl) ?_
      refine sx_icmp_ge (tgt := 139) hx hb hF dX11_point_110 (by decide) (fun hF => ?_) (fun hF => ?_)
      · refine lv_iload hx hb dX11_point_139 (lv_at hl 2 rfl) ?_
        exact sx_reti (Wd := (am_W a cI)) (σ := u) hx hb hr hF hP hS hlocks dX11_point_141
      · refine lv_aload_n hx hb dX11_point_113 rfl (lv_at hl 0 rfl) ?_
        refine gm_m_text hx hb hts hown hK hP fl_X11_78 dX11_point_114 ?_
        refine lv_bipush (v := 40) hx hb dX11_point_117 (by decide) ?_
        refine lv_iload hx hb dX11_point_119 (lv_at hl 2 rfl) ?_
        refine lv_imul hx hb dX11_point_121 ?_
        refine lv_iload hx hb dX11_point_122 (lv_at hl 3 rfl) ?_
        refine lv_iadd hx hb dX11_point_124 ?_
        refine lv_aload_n hx hb dX11_point_125 rfl (lv_at hl 0 rfl) ?_
        refine gm_m_tape hx hb hts hown hK hP fl_X11_140 dX11_point_126 ?_
        refine lv_iload hx hb dX11_point_129 (lv_at hl 3 rfl) ?_
        refine lm_m_tape hx hb hK hP hF dX11_point_131 (fun v22 hF => ?_)
        refine um_m_text hx hb hK hP hD hS hF dX11_point_132 (fun u23 H locs hF hP hS => ?_)
        refine sx_iinc (d := 1) (k := 3) (lv2 := [(0, .ref (a 0)), (4, .int x4), (6, .int x6)]) hx hb hF dX11_point_133 hl rfl (by decide) (by decide) rfl (fun v24 hF ls hl => ?_)
        refine lv_goto (tgt := 106) hx hb dX11_point_136 (by decide) ?_
        exact hi106 x4 x6 v24 u23 ls (lv_sub hl [1, 2, 3, 0] rfl) hF _ _ hP hS
  unfold fX11_point at hF
  refine lv_aload_n hx hb dX11_point_0 rfl (lv_at hl 0 rfl) ?_
  refine gm_m_length hx hb hts hown hK hP fl_X11_180 dX11_point_1 ?_
  refine sx_istore (lv2 := [(0, .ref (a 0)), (1, .int o1), (2, .long o2)]) hx hb hF dX11_point_4 hl (by decide) rfl (fun v1 hF ls hl => ?_)
  refine lv_aload_n hx hb dX11_point_6 rfl (lv_at hl 1 rfl) ?_
  refine lv_iconst (v := 0) hx hb dX11_point_7 (by decide) ?_
  refine pm_m_length hx hb hts hown hK hP fl_X11_180 hD hS hF dX11_point_8 (fun u2 H locs hF hP hS => ?_)
  refine lv_aload_n hx hb dX11_point_11 rfl (lv_at hl 1 rfl) ?_
  obtain ⟨r3, u4, hc5, hF⟩ := q_bnd_some hF
  refine sx_ci (Wd := (am_W a cI)) (σ1 := u4) (q_runV (Wd := (am_W a cI)) (σ := u2) (q0 := 0) (ci := 11) (T := TX11) (N := 72) (As := []) (rest := []) hx hb hml hown hts hK hP (kt_X11_begins hD hc5) cw_X11_333 rfl rfl ⟨Nat.le_of_ble_eq_true rfl, Nat.le_of_ble_eq_true rfl⟩ rfl rfl rfl hl.1 rfl (Nat.le_of_ble_eq_true rfl) dX11_point_12) hS (fun H locs hP hS => ?_)
  refine sx_if_ne (tgt := 21) hx hb hF dX11_point_15 (by decide) (fun hF => ?_) (fun hF => ?_)
  · refine lv_aload_n hx hb dX11_point_21 rfl (lv_at hl 1 rfl) ?_
    refine lv_iload_n hx hb dX11_point_22 rfl (lv_at hl 2 rfl) ?_
    refine lv_lload_n hx hb dX11_point_23 rfl (lv_at hl 3 rfl) ?_
    obtain ⟨r6, u7, hc8, hF⟩ := q_bnd_some hF
    refine sx_ci (Wd := (am_W a cI)) (σ1 := u7) (q_runV (Wd := (am_W a cI)) (σ := u4) (q0 := 0) (ci := 11) (T := TX11) (N := 72) (As := [.int o1, .long o2]) (rest := []) hx hb hml hown hts hK hP (kt_X11_refusal hD hc8) cw_X11_353 rfl rfl ⟨Nat.le_of_ble_eq_true rfl, Nat.le_of_ble_eq_true rfl⟩ rfl rfl rfl hl.1 rfl (Nat.le_of_ble_eq_true rfl) dX11_point_24) hS (fun H locs hP hS => ?_)
    refine lv_istore (lv' := [(5, .int r6), (4, .int v1), (0, .ref (a 0)), (1, .int o1), (2, .long o2)]) hx hb dX11_point_27 hl (by decide) rfl (fun ls hl => ?_)
    refine lv_iload hx hb dX11_point_29 (lv_at hl 0 rfl) ?_
    refine sx_if_eq (tgt := 37) hx hb hF dX11_point_31 (by decide) (fun hF => ?_) (fun hF => ?_)
    · refine lv_iload hx hb dX11_point_37 (lv_at hl 1 rfl) ?_
      refine sx_if_eq (tgt := 49) hx hb hF dX11_point_39 (by decide) (fun hF => ?_) (fun hF => ?_)
      · refine lv_bipush (v := (-15)) hx hb dX11_point_49 (by decide) ?_
        exact sx_reti (Wd := (am_W a cI)) (σ := u7) hx hb hr hF hP hS hlocks dX11_point_51
      · refine lv_iload hx hb dX11_point_42 (lv_at hl 1 rfl) ?_
        refine lv_bipush (v := 40) hx hb dX11_point_44 (by decide) ?_
        refine sx_icmp_le (tgt := 52) hx hb hF dX11_point_46 (by decide) (fun hF => ?_) (fun hF => ?_)
        · refine lv_aload_n hx hb dX11_point_52 rfl (lv_at hl 2 rfl) ?_
          obtain ⟨r9, u10, hc11, hF⟩ := q_bnd_some hF
          refine sx_ci (Wd := (am_W a cI)) (σ1 := u10) (q_runV (Wd := (am_W a cI)) (σ := u7) (q0 := 0) (ci := 11) (T := TX11) (N := 72) (As := []) (rest := []) hx hb hml hown hts hK hP (kt_X11_freeNode hD hc11) cw_X11_356 rfl rfl ⟨Nat.le_of_ble_eq_true rfl, Nat.le_of_ble_eq_true rfl⟩ rfl rfl rfl hl.1 rfl (Nat.le_of_ble_eq_true rfl) dX11_point_53) hS (fun H locs hP hS => ?_)
          refine lv_istore (lv' := [(6, .int r9), (5, .int r6), (4, .int v1), (0, .ref (a 0)), (1, .int o1), (2, .long o2)]) hx hb dX11_point_56 hl (by decide) rfl (fun ls hl => ?_)
          refine lv_iload hx hb dX11_point_58 (lv_at hl 0 rfl) ?_
          refine lv_iconst (v := (-1)) hx hb dX11_point_60 (by decide) ?_
          refine sx_icmp_eq (tgt := 73) hx hb hF dX11_point_61 (by decide) (fun hF => ?_) (fun hF => ?_)
          · refine lv_bipush (v := (-16)) hx hb dX11_point_73 (by decide) ?_
            exact sx_reti (Wd := (am_W a cI)) (σ := u10) hx hb hr hF hP hS hlocks dX11_point_75
          · refine lv_aload_n hx hb dX11_point_64 rfl (lv_at hl 3 rfl) ?_
            refine lv_iload_n hx hb dX11_point_65 rfl (lv_at hl 4 rfl) ?_
            refine lv_iconst (v := (-1)) hx hb dX11_point_66 (by decide) ?_
            obtain ⟨r12, u13, hc14, hF⟩ := q_bnd_some hF
            refine sx_ci (Wd := (am_W a cI)) (σ1 := u13) (q_runV (Wd := (am_W a cI)) (σ := u10) (q0 := 0) (ci := 11) (T := TX11) (N := 72) (As := [.int o1, .int (-1)]) (rest := []) hx hb hml hown hts hK hP (kt_X11_hasRoom hD hc14) cw_X11_359 rfl rfl ⟨Nat.le_of_ble_eq_true rfl, Nat.le_of_ble_eq_true rfl⟩ rfl rfl rfl hl.1 rfl (Nat.le_of_ble_eq_true rfl) dX11_point_67) hS (fun H locs hP hS => ?_)
            refine sx_if_ne (tgt := 76) hx hb hF dX11_point_70 (by decide) (fun hF => ?_) (fun hF => ?_)
            · refine lv_aload_n hx hb dX11_point_76 rfl (lv_at hl 3 rfl) ?_
              refine lv_iload_n hx hb dX11_point_77 rfl (lv_at hl 4 rfl) ?_
              refine lv_lload_n hx hb dX11_point_78 rfl (lv_at hl 5 rfl) ?_
              refine lv_iload hx hb dX11_point_79 (lv_at hl 0 rfl) ?_
              refine lv_iconst (v := (-1)) hx hb dX11_point_81 (by decide) ?_
              obtain ⟨r15, u16, hc17, hF⟩ := q_bnd_some hF
              refine sx_cv (Wd := (am_W a cI)) (σ1 := u16) (q_runV (Wd := (am_W a cI)) (σ := u13) (q0 := 0) (ci := 11) (T := TX11) (N := 72) (As := [.int o1, .long o2, .int r9, .int (-1)]) (rest := []) hx hb hml hown hts hK hP (kt_X11_enter hD hc17) cw_X11_362 rfl rfl ⟨Nat.le_of_ble_eq_true rfl, Nat.le_of_ble_eq_true rfl⟩ rfl rfl rfl hl.1 rfl (Nat.le_of_ble_eq_true rfl) dX11_point_82) hS (fun H locs hP hS => ?_)
              refine lv_aload_n hx hb dX11_point_85 rfl (lv_at hl 3 rfl) ?_
              refine lv_iload hx hb dX11_point_86 (lv_at hl 0 rfl) ?_
              refine lv_iconst (v := 4) hx hb dX11_point_88 (by decide) ?_
              refine lv_iload_n hx hb dX11_point_89 rfl (lv_at hl 4 rfl) ?_
              obtain ⟨r18, u19, hc20, hF⟩ := q_bnd_some hF
              refine sx_ci (Wd := (am_W a cI)) (σ1 := u19) (q_runV (Wd := (am_W a cI)) (σ := u16) (q0 := 0) (ci := 11) (T := TX11) (N := 72) (As := [.int r9, .int 4, .int o1]) (rest := []) hx hb hml hown hts hK hP (kt_X11_born hD hc20) cw_X11_366 rfl rfl ⟨Nat.le_of_ble_eq_true rfl, Nat.le_of_ble_eq_true rfl⟩ rfl rfl rfl hl.1 rfl (Nat.le_of_ble_eq_true rfl) dX11_point_90) hS (fun H locs hP hS => ?_)
              refine lv_pop hx hb dX11_point_93 rfl ?_
              refine lv_aload_n hx hb dX11_point_94 rfl (lv_at hl 3 rfl) ?_
              refine gm_m_size hx hb hts hown hK hP fl_X11_43 dX11_point_95 ?_
              refine lv_iload hx hb dX11_point_98 (lv_at hl 0 rfl) ?_
              refine lv_iload hx hb dX11_point_100 (lv_at hl 2 rfl) ?_
              refine um_m_size hx hb hK hP hD hS hF dX11_point_102 (fun u21 H locs hF hP hS => ?_)
              refine lv_iconst (v := 0) hx hb dX11_point_103 (by decide) ?_
              refine lv_istore (lv' := [(7, .int 0), (6, .int r9), (5, .int r6), (4, .int v1), (0, .ref (a 0)), (1, .int o1), (2, .long o2)]) hx hb dX11_point_104 hl (by decide) rfl (fun ls hl => ?_)
              exact hB106 N v1 r9 0 u21 ls (lv_sub hl [4, 3, 1, 0] rfl) hF _ _ hP hS
            · refine lv_bipush (v := (-16)) hx hb dX11_point_73 (by decide) ?_
              exact sx_reti (Wd := (am_W a cI)) (σ := u13) hx hb hr hF hP hS hlocks dX11_point_75
        · refine lv_bipush (v := (-15)) hx hb dX11_point_49 (by decide) ?_
          exact sx_reti (Wd := (am_W a cI)) (σ := u7) hx hb hr hF hP hS hlocks dX11_point_51
    · refine lv_iload hx hb dX11_point_34 (lv_at hl 0 rfl) ?_
      exact sx_reti (Wd := (am_W a cI)) (σ := u7) hx hb hr hF hP hS hlocks dX11_point_36
  · refine lv_bipush (v := (-99)) hx hb dX11_point_18 (by decide) ?_
    exact sx_reti (Wd := (am_W a cI)) (σ := u4) hx hb hr hF hP hS hlocks dX11_point_20
set_option maxHeartbeats 4000000 in
set_option maxRecDepth 100000 in
theorem kt_X11_isFile {N : Nat} {l : Launch} {D : va_G} {a : Nat → Nat} {cI : Nat → ClassId} (hD : ∀ σ, va_D (am_A a) (am_W a cI σ)) {o1 : Int32} {o2 : Int32} {u σ0 : q_St} {r0 : Int32} (hF : fX11_isFile N o1 o2 u = some (r0, σ0)) : Met l yX11_isFile (Cond.code yX11_isFile cX11_isFile 3 (some .boolean) :: q_T) ({ frames := 0, cells := 0, slots := 0, locals := 0 } : Room) (q_P D vwCl (am_T cI) (am_W a cI) [.ref (a 0), .int o1, .int o2] u) (q_Qi D vwCl (am_W a cI) (am_A a) r0 σ0) 0 0 (am_A a) := by
  refine Met.ofW (cc := cX11_isFile) (maxL := 3) (ret := (some .boolean)) (by decide) rfl ?_
  intro p e s m args below meth c s₁ B hml hv
  obtain ⟨rfl, hP, hK⟩ := hv
  have hx := B.exec
  have hb := B.bytes
  have hr := B.returns
  have hts := q_ts (atoms_spec (ws := Cond.code yX11_isFile cX11_isFile 3 (some .boolean) :: q_T) B.pre)
  have hown : s.vm.findClass RX11 = some m.cls := findClass_of_methodNamed B.named
  have hlocks := B.notSynchronized
  have hS : va_S (am_A a) s.heap s.heap [] := va_S.rf
  have hl := lv_entry ([.ref (a 0), .int o1, .int o2]) (n := 3) (Nat.le_of_ble_eq_true rfl)
  rw [lg_entry_eq]
  generalize (lg_sl ([.ref (a 0), .int o1, .int o2]) ++ List.replicate (3 - (lg_sl ([.ref (a 0), .int o1, .int o2])).length) Slot.unset).toArray = ls at hl ⊢
  have hl : lv_has ls 3 [(0, .ref (a 0)), (1, .int o1), (2, .int o2)] := hl
  have hB34 : ∀ (u : q_St) (ls : Array Slot), lv_has ls 3 [] → fX11_isFile_b34 N u = some (r0, σ0) → ∀ (H : Heap) (locs : List Loc), va_P D vwCl (am_W a cI u) H → va_S (am_A a) s.heap H locs → W p l e (headSpec (Cond.code yX11_isFile cX11_isFile 3 (some .boolean) :: q_T) ({ frames := 0, cells := 0, slots := 0, locals := 0 } : Room)).room s m ([.ref (a 0), .int o1, .int o2] : List Value).toArray below meth c H locs 0 0 (MQ below (q_Qi D vwCl (am_W a cI) (am_A a) r0 σ0) ([.ref (a 0), .int o1, .int o2] : List Value).toArray s 0 0 (am_A a)) (F0 m 34 ls []) := by
    intro u ls hl hF _ _ hP hS
    unfold fX11_isFile_b34 at hF
    refine lv_iconst (v := 1) hx hb dX11_isFile_34 (by decide) ?_
    refine lv_goto (tgt := 39) hx hb dX11_isFile_35 (by decide) ?_
    exact sx_retz (Wd := (am_W a cI)) (σ := u) hx hb hr (by decide) hF hP hS hlocks dX11_isFile_39
  unfold fX11_isFile at hF
  refine lv_iload_n hx hb dX11_isFile_0 rfl (lv_at hl 1 rfl) ?_
  refine sx_if_lt (tgt := 38) hx hb hF dX11_isFile_1 (by decide) (fun hF => ?_) (fun hF => ?_)
  · refine lv_iconst (v := 0) hx hb dX11_isFile_38 (by decide) ?_
    exact sx_retz (Wd := (am_W a cI)) (σ := u) hx hb hr (by decide) hF hP hS hlocks dX11_isFile_39
  · refine lv_iload_n hx hb dX11_isFile_4 rfl (lv_at hl 1 rfl) ?_
    refine lv_bipush (v := 64) hx hb dX11_isFile_5 (by decide) ?_
    refine sx_icmp_ge (tgt := 38) hx hb hF dX11_isFile_7 (by decide) (fun hF => ?_) (fun hF => ?_)
    · refine lv_iconst (v := 0) hx hb dX11_isFile_38 (by decide) ?_
      exact sx_retz (Wd := (am_W a cI)) (σ := u) hx hb hr (by decide) hF hP hS hlocks dX11_isFile_39
    · refine lv_aload_n hx hb dX11_isFile_10 rfl (lv_at hl 0 rfl) ?_
      refine gm_m_kind hx hb hts hown hK hP fl_X11_40 dX11_isFile_11 ?_
      refine lv_iload_n hx hb dX11_isFile_14 rfl (lv_at hl 1 rfl) ?_
      refine lm_m_kind hx hb hK hP hF dX11_isFile_15 (fun v1 hF => ?_)
      refine lv_iconst (v := 1) hx hb dX11_isFile_16 (by decide) ?_
      refine sx_icmp_eq (tgt := 34) hx hb hF dX11_isFile_17 (by decide) (fun hF => ?_) (fun hF => ?_)
      · exact hB34 u ls (lv_sub hl [] rfl) hF _ _ hP hS
      · refine lv_iload_n hx hb dX11_isFile_20 rfl (lv_at hl 2 rfl) ?_
        refine sx_if_eq (tgt := 38) hx hb hF dX11_isFile_21 (by decide) (fun hF => ?_) (fun hF => ?_)
        · refine lv_iconst (v := 0) hx hb dX11_isFile_38 (by decide) ?_
          exact sx_retz (Wd := (am_W a cI)) (σ := u) hx hb hr (by decide) hF hP hS hlocks dX11_isFile_39
        · refine lv_aload_n hx hb dX11_isFile_24 rfl (lv_at hl 0 rfl) ?_
          refine gm_m_kind hx hb hts hown hK hP fl_X11_40 dX11_isFile_25 ?_
          refine lv_iload_n hx hb dX11_isFile_28 rfl (lv_at hl 1 rfl) ?_
          refine lm_m_kind hx hb hK hP hF dX11_isFile_29 (fun v2 hF => ?_)
          refine lv_iconst (v := 3) hx hb dX11_isFile_30 (by decide) ?_
          refine sx_icmp_ne (tgt := 38) hx hb hF dX11_isFile_31 (by decide) (fun hF => ?_) (fun hF => ?_)
          · refine lv_iconst (v := 0) hx hb dX11_isFile_38 (by decide) ?_
            exact sx_retz (Wd := (am_W a cI)) (σ := u) hx hb hr (by decide) hF hP hS hlocks dX11_isFile_39
          · exact hB34 u ls (lv_sub hl [] rfl) hF _ _ hP hS
set_option maxHeartbeats 4000000 in
set_option maxRecDepth 100000 in
theorem kt_X11_link {N : Nat} {l : Launch} {D : va_G} {a : Nat → Nat} {cI : Nat → ClassId} (hD : ∀ σ, va_D (am_A a) (am_W a cI σ)) {o1 : Int32} {o2 : Int64} {o4 : Int32} {u σ0 : q_St} {r0 : Int32} (hF : fX11_link N o1 o2 o4 u = some (r0, σ0)) : Met l yX11_link (Cond.code yX11_link cX11_link 5 (some .int) :: q_T) ({ frames := 9, cells := 0, slots := 0, locals := 196 } : Room) (q_P D vwCl (am_T cI) (am_W a cI) [.ref (a 0), .int o1, .long o2, .int o4] u) (q_Qi D vwCl (am_W a cI) (am_A a) r0 σ0) 0 0 (am_A a) := by
  refine Met.ofW (cc := cX11_link) (maxL := 5) (ret := (some .int)) (by decide) rfl ?_
  intro p e s m args below meth c s₁ B hml hv
  obtain ⟨rfl, hP, hK⟩ := hv
  have hx := B.exec
  have hb := B.bytes
  have hr := B.returns
  have hts := q_ts (atoms_spec (ws := Cond.code yX11_link cX11_link 5 (some .int) :: q_T) B.pre)
  have hown : s.vm.findClass RX11 = some m.cls := findClass_of_methodNamed B.named
  have hlocks := B.notSynchronized
  have hS : va_S (am_A a) s.heap s.heap [] := va_S.rf
  have hl := lv_entry ([.ref (a 0), .int o1, .long o2, .int o4]) (n := 5) (Nat.le_of_ble_eq_true rfl)
  rw [lg_entry_eq]
  generalize (lg_sl ([.ref (a 0), .int o1, .long o2, .int o4]) ++ List.replicate (5 - (lg_sl ([.ref (a 0), .int o1, .long o2, .int o4])).length) Slot.unset).toArray = ls at hl ⊢
  have hl : lv_has ls 5 [(0, .ref (a 0)), (1, .int o1), (2, .long o2), (4, .int o4)] := hl
  unfold fX11_link at hF
  refine lv_aload_n hx hb dX11_link_0 rfl (lv_at hl 0 rfl) ?_
  obtain ⟨r1, u2, hc3, hF⟩ := q_bnd_some hF
  refine sx_ci (Wd := (am_W a cI)) (σ1 := u2) (q_runV (Wd := (am_W a cI)) (σ := u) (q0 := 0) (ci := 11) (T := TX11) (N := 72) (As := []) (rest := []) hx hb hml hown hts hK hP (kt_X11_begins hD hc3) cw_X11_333 rfl rfl ⟨Nat.le_of_ble_eq_true rfl, Nat.le_of_ble_eq_true rfl⟩ rfl rfl rfl hl.1 rfl (Nat.le_of_ble_eq_true rfl) dX11_link_1) hS (fun H locs hP hS => ?_)
  refine sx_if_ne (tgt := 10) hx hb hF dX11_link_4 (by decide) (fun hF => ?_) (fun hF => ?_)
  · refine lv_aload_n hx hb dX11_link_10 rfl (lv_at hl 0 rfl) ?_
    refine lv_iload_n hx hb dX11_link_11 rfl (lv_at hl 1 rfl) ?_
    obtain ⟨r4, u5, hc6, hF⟩ := q_bnd_some hF
    refine sx_ci (Wd := (am_W a cI)) (σ1 := u5) (q_runV (Wd := (am_W a cI)) (σ := u2) (q0 := 0) (ci := 11) (T := TX11) (N := 72) (As := [.int o1]) (rest := []) hx hb hml hown hts hK hP (kt_X11_isDirectory hD hc6) cw_X11_339 rfl rfl ⟨Nat.le_of_ble_eq_true rfl, Nat.le_of_ble_eq_true rfl⟩ rfl rfl rfl hl.1 rfl (Nat.le_of_ble_eq_true rfl) dX11_link_12) hS (fun H locs hP hS => ?_)
    refine sx_if_ne (tgt := 21) hx hb hF dX11_link_15 (by decide) (fun hF => ?_) (fun hF => ?_)
    · refine lv_lload_n hx hb dX11_link_21 rfl (lv_at hl 2 rfl) ?_
      obtain ⟨r7, u8, hc9, hF⟩ := q_bnd_some hF
      refine sx_ci (Wd := (am_W a cI)) (σ1 := u8) (q_runS (Wd := (am_W a cI)) (σ := u5) (As := [.long o2]) (rest := []) hx hb hml hown hts hK hP (kt_X11_isName hD hc9) cw_X11_342 rfl rfl ⟨Nat.le_of_ble_eq_true rfl, Nat.le_of_ble_eq_true rfl⟩ rfl hl.1 rfl (Nat.le_of_ble_eq_true rfl) dX11_link_22) hS (fun H locs hP hS => ?_)
      refine sx_if_ne (tgt := 31) hx hb hF dX11_link_25 (by decide) (fun hF => ?_) (fun hF => ?_)
      · refine lv_aload_n hx hb dX11_link_31 rfl (lv_at hl 0 rfl) ?_
        refine lv_iload_n hx hb dX11_link_32 rfl (lv_at hl 1 rfl) ?_
        refine lv_iconst (v := 3) hx hb dX11_link_33 (by decide) ?_
        obtain ⟨r10, u11, hc12, hF⟩ := q_bnd_some hF
        refine sx_ci (Wd := (am_W a cI)) (σ1 := u11) (q_runV (Wd := (am_W a cI)) (σ := u8) (q0 := 0) (ci := 11) (T := TX11) (N := 72) (As := [.int o1, .int 3]) (rest := []) hx hb hml hown hts hK hP (kt_X11_may hD hc12) cw_X11_346 rfl rfl ⟨Nat.le_of_ble_eq_true rfl, Nat.le_of_ble_eq_true rfl⟩ rfl rfl rfl hl.1 rfl (Nat.le_of_ble_eq_true rfl) dX11_link_34) hS (fun H locs hP hS => ?_)
        refine sx_if_ne (tgt := 43) hx hb hF dX11_link_37 (by decide) (fun hF => ?_) (fun hF => ?_)
        · refine lv_aload_n hx hb dX11_link_43 rfl (lv_at hl 0 rfl) ?_
          refine lv_iload hx hb dX11_link_44 (lv_at hl 3 rfl) ?_
          refine lv_iconst (v := 1) hx hb dX11_link_46 (by decide) ?_
          obtain ⟨r13, u14, hc15, hF⟩ := q_bnd_some hF
          refine sx_ci (Wd := (am_W a cI)) (σ1 := u14) (q_runV (Wd := (am_W a cI)) (σ := u11) (q0 := 0) (ci := 11) (T := TX11) (N := 72) (As := [.int o4, .int 1]) (rest := []) hx hb hml hown hts hK hP (kt_X11_isFile hD hc15) cw_X11_373 rfl rfl ⟨Nat.le_of_ble_eq_true rfl, Nat.le_of_ble_eq_true rfl⟩ rfl rfl rfl hl.1 rfl (Nat.le_of_ble_eq_true rfl) dX11_link_47) hS (fun H locs hP hS => ?_)
          refine sx_if_ne (tgt := 56) hx hb hF dX11_link_50 (by decide) (fun hF => ?_) (fun hF => ?_)
          · refine lv_aload_n hx hb dX11_link_56 rfl (lv_at hl 0 rfl) ?_
            refine lv_iload_n hx hb dX11_link_57 rfl (lv_at hl 1 rfl) ?_
            refine lv_lload_n hx hb dX11_link_58 rfl (lv_at hl 2 rfl) ?_
            obtain ⟨r16, u17, hc18, hF⟩ := q_bnd_some hF
            refine sx_ci (Wd := (am_W a cI)) (σ1 := u17) (q_runV (Wd := (am_W a cI)) (σ := u14) (q0 := 0) (ci := 11) (T := TX11) (N := 72) (As := [.int o1, .long o2]) (rest := []) hx hb hml hown hts hK hP (kt_X11_slotOf hD hc18) cw_X11_349 rfl rfl ⟨Nat.le_of_ble_eq_true rfl, Nat.le_of_ble_eq_true rfl⟩ rfl rfl rfl hl.1 rfl (Nat.le_of_ble_eq_true rfl) dX11_link_59) hS (fun H locs hP hS => ?_)
            refine lv_iconst (v := (-1)) hx hb dX11_link_62 (by decide) ?_
            refine sx_icmp_eq (tgt := 69) hx hb hF dX11_link_63 (by decide) (fun hF => ?_) (fun hF => ?_)
            · refine lv_aload_n hx hb dX11_link_69 rfl (lv_at hl 0 rfl) ?_
              refine gm_m_links hx hb hts hown hK hP fl_X11_75 dX11_link_70 ?_
              refine lv_iload hx hb dX11_link_73 (lv_at hl 3 rfl) ?_
              refine lm_m_links hx hb hK hP hF dX11_link_75 (fun v19 hF => ?_)
              refine lv_sipush (v := 255) hx hb dX11_link_76 (by decide) ?_
              refine sx_icmp_ne (tgt := 85) hx hb hF dX11_link_79 (by decide) (fun hF => ?_) (fun hF => ?_)
              · refine lv_aload_n hx hb dX11_link_85 rfl (lv_at hl 0 rfl) ?_
                refine lv_iload_n hx hb dX11_link_86 rfl (lv_at hl 1 rfl) ?_
                refine lv_iconst (v := (-1)) hx hb dX11_link_87 (by decide) ?_
                obtain ⟨r20, u21, hc22, hF⟩ := q_bnd_some hF
                refine sx_ci (Wd := (am_W a cI)) (σ1 := u21) (q_runV (Wd := (am_W a cI)) (σ := u17) (q0 := 0) (ci := 11) (T := TX11) (N := 72) (As := [.int o1, .int (-1)]) (rest := []) hx hb hml hown hts hK hP (kt_X11_hasRoom hD hc22) cw_X11_359 rfl rfl ⟨Nat.le_of_ble_eq_true rfl, Nat.le_of_ble_eq_true rfl⟩ rfl rfl rfl hl.1 rfl (Nat.le_of_ble_eq_true rfl) dX11_link_88) hS (fun H locs hP hS => ?_)
                refine sx_if_ne (tgt := 97) hx hb hF dX11_link_91 (by decide) (fun hF => ?_) (fun hF => ?_)
                · refine lv_aload_n hx hb dX11_link_97 rfl (lv_at hl 0 rfl) ?_
                  refine lv_iload_n hx hb dX11_link_98 rfl (lv_at hl 1 rfl) ?_
                  refine lv_lload_n hx hb dX11_link_99 rfl (lv_at hl 2 rfl) ?_
                  refine lv_iload hx hb dX11_link_100 (lv_at hl 3 rfl) ?_
                  refine lv_iconst (v := (-1)) hx hb dX11_link_102 (by decide) ?_
                  obtain ⟨r23, u24, hc25, hF⟩ := q_bnd_some hF
                  refine sx_cv (Wd := (am_W a cI)) (σ1 := u24) (q_runV (Wd := (am_W a cI)) (σ := u21) (q0 := 0) (ci := 11) (T := TX11) (N := 72) (As := [.int o1, .long o2, .int o4, .int (-1)]) (rest := []) hx hb hml hown hts hK hP (kt_X11_enter hD hc25) cw_X11_362 rfl rfl ⟨Nat.le_of_ble_eq_true rfl, Nat.le_of_ble_eq_true rfl⟩ rfl rfl rfl hl.1 rfl (Nat.le_of_ble_eq_true rfl) dX11_link_103) hS (fun H locs hP hS => ?_)
                  refine lv_aload_n hx hb dX11_link_106 rfl (lv_at hl 0 rfl) ?_
                  refine gm_m_links hx hb hts hown hK hP fl_X11_75 dX11_link_107 ?_
                  refine lv_iload hx hb dX11_link_110 (lv_at hl 3 rfl) ?_
                  refine lv_dup2_11 hx hb dX11_link_112 rfl rfl ?_
                  refine lm_m_links hx hb hK hP hF dX11_link_113 (fun v26 hF => ?_)
                  refine lv_iconst (v := 1) hx hb dX11_link_114 (by decide) ?_
                  refine lv_iadd hx hb dX11_link_115 ?_
                  refine um_m_links hx hb hK hP hD hS hF dX11_link_116 (fun u27 H locs hF hP hS => ?_)
                  refine lv_aload_n hx hb dX11_link_117 rfl (lv_at hl 0 rfl) ?_
                  refine lv_iload hx hb dX11_link_118 (lv_at hl 3 rfl) ?_
                  obtain ⟨r28, u29, hc30, hF⟩ := q_bnd_some hF
                  refine sx_cv (Wd := (am_W a cI)) (σ1 := u29) (q_runV (Wd := (am_W a cI)) (σ := u27) (q0 := 0) (ci := 11) (T := TX11) (N := 72) (As := [.int o4]) (rest := []) hx hb hml hown hts hK hP (kt_X11_soilNode hD hc30) cw_X11_324 rfl rfl ⟨Nat.le_of_ble_eq_true rfl, Nat.le_of_ble_eq_true rfl⟩ rfl rfl rfl hl.1 rfl (Nat.le_of_ble_eq_true rfl) dX11_link_120) hS (fun H locs hP hS => ?_)
                  refine lv_aload_n hx hb dX11_link_123 rfl (lv_at hl 0 rfl) ?_
                  refine gm_m_links hx hb hts hown hK hP fl_X11_75 dX11_link_124 ?_
                  refine lv_iload hx hb dX11_link_127 (lv_at hl 3 rfl) ?_
                  refine lm_m_links hx hb hK hP hF dX11_link_129 (fun v31 hF => ?_)
                  exact sx_reti (Wd := (am_W a cI)) (σ := u29) hx hb hr hF hP hS hlocks dX11_link_130
                · refine lv_bipush (v := (-16)) hx hb dX11_link_94 (by decide) ?_
                  exact sx_reti (Wd := (am_W a cI)) (σ := u21) hx hb hr hF hP hS hlocks dX11_link_96
              · refine lv_bipush (v := (-15)) hx hb dX11_link_82 (by decide) ?_
                exact sx_reti (Wd := (am_W a cI)) (σ := u17) hx hb hr hF hP hS hlocks dX11_link_84
            · refine lv_bipush (v := (-13)) hx hb dX11_link_66 (by decide) ?_
              exact sx_reti (Wd := (am_W a cI)) (σ := u17) hx hb hr hF hP hS hlocks dX11_link_68
          · refine lv_bipush (v := (-14)) hx hb dX11_link_53 (by decide) ?_
            exact sx_reti (Wd := (am_W a cI)) (σ := u14) hx hb hr hF hP hS hlocks dX11_link_55
        · refine lv_bipush (v := (-20)) hx hb dX11_link_40 (by decide) ?_
          exact sx_reti (Wd := (am_W a cI)) (σ := u11) hx hb hr hF hP hS hlocks dX11_link_42
      · refine lv_bipush (v := (-11)) hx hb dX11_link_28 (by decide) ?_
        exact sx_reti (Wd := (am_W a cI)) (σ := u8) hx hb hr hF hP hS hlocks dX11_link_30
    · refine lv_bipush (v := (-10)) hx hb dX11_link_18 (by decide) ?_
      exact sx_reti (Wd := (am_W a cI)) (σ := u5) hx hb hr hF hP hS hlocks dX11_link_20
  · refine lv_bipush (v := (-99)) hx hb dX11_link_7 (by decide) ?_
    exact sx_reti (Wd := (am_W a cI)) (σ := u2) hx hb hr hF hP hS hlocks dX11_link_9
set_option maxHeartbeats 4000000 in
set_option maxRecDepth 100000 in
theorem kt_X11_links {N : Nat} {l : Launch} {D : va_G} {a : Nat → Nat} {cI : Nat → ClassId} (hD : ∀ σ, va_D (am_A a) (am_W a cI σ)) {o1 : Int32} {u σ0 : q_St} {r0 : Int32} (hF : fX11_links N o1 u = some (r0, σ0)) : Met l yX11_links (Cond.code yX11_links cX11_links 2 (some .int) :: q_T) ({ frames := 1, cells := 0, slots := 0, locals := 22 } : Room) (q_P D vwCl (am_T cI) (am_W a cI) [.ref (a 0), .int o1] u) (q_Qi D vwCl (am_W a cI) (am_A a) r0 σ0) 0 0 (am_A a) := by
  refine Met.ofW (cc := cX11_links) (maxL := 2) (ret := (some .int)) (by decide) rfl ?_
  intro p e s m args below meth c s₁ B hml hv
  obtain ⟨rfl, hP, hK⟩ := hv
  have hx := B.exec
  have hb := B.bytes
  have hr := B.returns
  have hts := q_ts (atoms_spec (ws := Cond.code yX11_links cX11_links 2 (some .int) :: q_T) B.pre)
  have hown : s.vm.findClass RX11 = some m.cls := findClass_of_methodNamed B.named
  have hlocks := B.notSynchronized
  have hS : va_S (am_A a) s.heap s.heap [] := va_S.rf
  have hl := lv_entry ([.ref (a 0), .int o1]) (n := 2) (Nat.le_of_ble_eq_true rfl)
  rw [lg_entry_eq]
  generalize (lg_sl ([.ref (a 0), .int o1]) ++ List.replicate (2 - (lg_sl ([.ref (a 0), .int o1])).length) Slot.unset).toArray = ls at hl ⊢
  have hl : lv_has ls 2 [(0, .ref (a 0)), (1, .int o1)] := hl
  unfold fX11_links at hF
  refine lv_aload_n hx hb dX11_links_0 rfl (lv_at hl 0 rfl) ?_
  refine gm_m_isOn hx hb hts hown hK hP fl_X11_7 dX11_links_1 ?_
  refine sx_if_ne (tgt := 10) hx hb hF dX11_links_4 (by decide) (fun hF => ?_) (fun hF => ?_)
  · refine lv_aload_n hx hb dX11_links_10 rfl (lv_at hl 0 rfl) ?_
    refine lv_iload_n hx hb dX11_links_11 rfl (lv_at hl 1 rfl) ?_
    refine lv_iconst (v := 1) hx hb dX11_links_12 (by decide) ?_
    obtain ⟨r1, u2, hc3, hF⟩ := q_bnd_some hF
    refine sx_ci (Wd := (am_W a cI)) (σ1 := u2) (q_runV (Wd := (am_W a cI)) (σ := u) (q0 := 0) (ci := 11) (T := TX11) (N := 72) (As := [.int o1, .int 1]) (rest := []) hx hb hml hown hts hK hP (kt_X11_isFile hD hc3) cw_X11_373 rfl rfl ⟨Nat.le_of_ble_eq_true rfl, Nat.le_of_ble_eq_true rfl⟩ rfl rfl rfl hl.1 rfl (Nat.le_of_ble_eq_true rfl) dX11_links_13) hS (fun H locs hP hS => ?_)
    refine sx_if_eq (tgt := 28) hx hb hF dX11_links_16 (by decide) (fun hF => ?_) (fun hF => ?_)
    · refine lv_bipush (v := (-14)) hx hb dX11_links_28 (by decide) ?_
      exact sx_reti (Wd := (am_W a cI)) (σ := u2) hx hb hr hF hP hS hlocks dX11_links_30
    · refine lv_aload_n hx hb dX11_links_19 rfl (lv_at hl 0 rfl) ?_
      refine gm_m_links hx hb hts hown hK hP fl_X11_75 dX11_links_20 ?_
      refine lv_iload_n hx hb dX11_links_23 rfl (lv_at hl 1 rfl) ?_
      refine lm_m_links hx hb hK hP hF dX11_links_24 (fun v4 hF => ?_)
      refine lv_goto (tgt := 30) hx hb dX11_links_25 (by decide) ?_
      exact sx_reti (Wd := (am_W a cI)) (σ := u2) hx hb hr hF hP hS hlocks dX11_links_30
  · refine lv_bipush (v := (-99)) hx hb dX11_links_7 (by decide) ?_
    exact sx_reti (Wd := (am_W a cI)) (σ := u) hx hb hr hF hP hS hlocks dX11_links_9
