set_option maxHeartbeats 4000000 in
set_option maxRecDepth 100000 in
theorem kt_X11_rename {N : Nat} {l : Launch} {D : va_G} {a : Nat → Nat} {cI : Nat → ClassId} (hD : ∀ σ, va_D (am_A a) (am_W a cI σ)) {o1 : Int32} {o2 : Int64} {o4 : Int32} {o5 : Int64} {u σ0 : q_St} {r0 : Int32} (hF : fX11_rename N o1 o2 o4 o5 u = some (r0, σ0)) : Met l yX11_rename (Cond.code yX11_rename cX11_rename 12 (some .int) :: q_T) ({ frames := 9, cells := 0, slots := 0, locals := 196 } : Room) (q_P D vwCl (am_T cI) (am_W a cI) [.ref (a 0), .int o1, .long o2, .int o4, .long o5] u) (q_Qi D vwCl (am_W a cI) (am_A a) r0 σ0) 0 0 (am_A a) := by
  refine Met.ofW (cc := cX11_rename) (maxL := 12) (ret := (some .int)) (by decide) rfl ?_
  intro p e s m args below meth c s₁ B hml hv
  obtain ⟨rfl, hP, hK⟩ := hv
  have hx := B.exec
  have hb := B.bytes
  have hr := B.returns
  have hts := q_ts (atoms_spec (ws := Cond.code yX11_rename cX11_rename 12 (some .int) :: q_T) B.pre)
  have hown : s.vm.findClass RX11 = some m.cls := findClass_of_methodNamed B.named
  have hlocks := B.notSynchronized
  have hS : va_S (am_A a) s.heap s.heap [] := va_S.rf
  have hl := lv_entry ([.ref (a 0), .int o1, .long o2, .int o4, .long o5]) (n := 12) (Nat.le_of_ble_eq_true rfl)
  rw [lg_entry_eq]
  generalize (lg_sl ([.ref (a 0), .int o1, .long o2, .int o4, .long o5]) ++ List.replicate (12 - (lg_sl ([.ref (a 0), .int o1, .long o2, .int o4, .long o5])).length) Slot.unset).toArray = ls at hl ⊢
  have hl : lv_has ls 12 [(0, .ref (a 0)), (1, .int o1), (2, .long o2), (4, .int o4), (5, .long o5)] := hl
  have hB260 : ∀ (x1 : Int32) (x4 : Int32) (x5 : Int64) (x7 : Int32) (x8 : Int32) (u : q_St) (ls : Array Slot), lv_has ls 12 [(0, .ref (a 0)), (1, .int x1), (4, .int x4), (5, .long x5), (7, .int x7), (8, .int x8)] → fX11_rename_b260 N x1 x4 x5 x7 x8 u = some (r0, σ0) → ∀ (H : Heap) (locs : List Loc), va_P D vwCl (am_W a cI u) H → va_S (am_A a) s.heap H locs → W p l e (headSpec (Cond.code yX11_rename cX11_rename 12 (some .int) :: q_T) ({ frames := 9, cells := 0, slots := 0, locals := 196 } : Room)).room s m ([.ref (a 0), .int o1, .long o2, .int o4, .long o5] : List Value).toArray below meth c H locs 0 0 (MQ below (q_Qi D vwCl (am_W a cI) (am_A a) r0 σ0) ([.ref (a 0), .int o1, .long o2, .int o4, .long o5] : List Value).toArray s 0 0 (am_A a)) (F0 m 260 ls []) := by
    intro x1 x4 x5 x7 x8 u ls hl hF _ _ hP hS
    unfold fX11_rename_b260 at hF
    refine lv_aload_n hx hb dX11_rename_260 rfl (lv_at hl 0 rfl) ?_
    refine gm_m_slotNode hx hb hts hown hK hP fl_X11_68 dX11_rename_261 ?_
    refine lv_iload hx hb dX11_rename_264 (lv_at hl 4 rfl) ?_
    refine lv_iconst (v := (-1)) hx hb dX11_rename_266 (by decide) ?_
    refine um_m_slotNode hx hb hK hP hD hS hF dX11_rename_267 (fun u30 H locs hF hP hS => ?_)
    refine lv_aload_n hx hb dX11_rename_268 rfl (lv_at hl 0 rfl) ?_
    refine lv_iload hx hb dX11_rename_269 (lv_at hl 4 rfl) ?_
    obtain ⟨r31, u32, hc33, hF⟩ := q_bnd_some hF
    refine sx_cv (Wd := (am_W a cI)) (σ1 := u32) (q_runV (Wd := (am_W a cI)) (σ := u30) (q0 := 0) (ci := 11) (T := TX11) (N := 72) (As := [.int x7]) (rest := []) hx hb hml hown hts hK hP (kt_X11_soilSlot hD hc33) cw_X11_327 rfl rfl ⟨Nat.le_of_ble_eq_true rfl, Nat.le_of_ble_eq_true rfl⟩ rfl rfl rfl hl.1 rfl (Nat.le_of_ble_eq_true rfl) dX11_rename_271) hS (fun H locs hP hS => ?_)
    refine lv_aload_n hx hb dX11_rename_274 rfl (lv_at hl 0 rfl) ?_
    refine lv_iload hx hb dX11_rename_275 (lv_at hl 2 rfl) ?_
    refine lv_lload hx hb dX11_rename_277 (lv_at hl 3 rfl) ?_
    refine lv_iload hx hb dX11_rename_279 (lv_at hl 5 rfl) ?_
    refine lv_iconst (v := (-1)) hx hb dX11_rename_281 (by decide) ?_
    obtain ⟨r34, u35, hc36, hF⟩ := q_bnd_some hF
    refine sx_cv (Wd := (am_W a cI)) (σ1 := u35) (q_runV (Wd := (am_W a cI)) (σ := u32) (q0 := 0) (ci := 11) (T := TX11) (N := 72) (As := [.int x4, .long x5, .int x8, .int (-1)]) (rest := []) hx hb hml hown hts hK hP (kt_X11_enter hD hc36) cw_X11_362 rfl rfl ⟨Nat.le_of_ble_eq_true rfl, Nat.le_of_ble_eq_true rfl⟩ rfl rfl rfl hl.1 rfl (Nat.le_of_ble_eq_true rfl) dX11_rename_282) hS (fun H locs hP hS => ?_)
    refine lv_aload_n hx hb dX11_rename_285 rfl (lv_at hl 0 rfl) ?_
    refine gm_m_kind hx hb hts hown hK hP fl_X11_40 dX11_rename_286 ?_
    refine lv_iload hx hb dX11_rename_289 (lv_at hl 5 rfl) ?_
    refine lm_m_kind hx hb hK hP hF dX11_rename_291 (fun v37 hF => ?_)
    refine lv_iconst (v := 2) hx hb dX11_rename_292 (by decide) ?_
    refine sx_icmp_ne (tgt := 317) hx hb hF dX11_rename_293 (by decide) (fun hF => ?_) (fun hF => ?_)
    · refine lv_iload hx hb dX11_rename_317 (lv_at hl 5 rfl) ?_
      exact sx_reti (Wd := (am_W a cI)) (σ := u35) hx hb hr hF hP hS hlocks dX11_rename_319
    · refine lv_iload_n hx hb dX11_rename_296 rfl (lv_at hl 1 rfl) ?_
      refine lv_iload hx hb dX11_rename_297 (lv_at hl 2 rfl) ?_
      refine sx_icmp_eq (tgt := 317) hx hb hF dX11_rename_299 (by decide) (fun hF => ?_) (fun hF => ?_)
      · refine lv_iload hx hb dX11_rename_317 (lv_at hl 5 rfl) ?_
        exact sx_reti (Wd := (am_W a cI)) (σ := u35) hx hb hr hF hP hS hlocks dX11_rename_319
      · refine lv_aload_n hx hb dX11_rename_302 rfl (lv_at hl 0 rfl) ?_
        refine gm_m_parent hx hb hts hown hK hP fl_X11_46 dX11_rename_303 ?_
        refine lv_iload hx hb dX11_rename_306 (lv_at hl 5 rfl) ?_
        refine lv_iload hx hb dX11_rename_308 (lv_at hl 2 rfl) ?_
        refine um_m_parent hx hb hK hP hD hS hF dX11_rename_310 (fun u38 H locs hF hP hS => ?_)
        refine lv_aload_n hx hb dX11_rename_311 rfl (lv_at hl 0 rfl) ?_
        refine lv_iload hx hb dX11_rename_312 (lv_at hl 5 rfl) ?_
        obtain ⟨r39, u40, hc41, hF⟩ := q_bnd_some hF
        refine sx_cv (Wd := (am_W a cI)) (σ1 := u40) (q_runV (Wd := (am_W a cI)) (σ := u38) (q0 := 0) (ci := 11) (T := TX11) (N := 72) (As := [.int x8]) (rest := []) hx hb hml hown hts hK hP (kt_X11_soilNode hD hc41) cw_X11_324 rfl rfl ⟨Nat.le_of_ble_eq_true rfl, Nat.le_of_ble_eq_true rfl⟩ rfl rfl rfl hl.1 rfl (Nat.le_of_ble_eq_true rfl) dX11_rename_314) hS (fun H locs hP hS => ?_)
        refine lv_iload hx hb dX11_rename_317 (lv_at hl 5 rfl) ?_
        exact sx_reti (Wd := (am_W a cI)) (σ := u40) hx hb hr hF hP hS hlocks dX11_rename_319
  have hB230 : ∀ (x1 : Int32) (x4 : Int32) (x5 : Int64) (x7 : Int32) (x8 : Int32) (x9 : Int32) (u : q_St) (ls : Array Slot), lv_has ls 12 [(0, .ref (a 0)), (1, .int x1), (4, .int x4), (5, .long x5), (7, .int x7), (8, .int x8), (9, .int x9)] → fX11_rename_b230 N x1 x4 x5 x7 x8 x9 u = some (r0, σ0) → ∀ (H : Heap) (locs : List Loc), va_P D vwCl (am_W a cI u) H → va_S (am_A a) s.heap H locs → W p l e (headSpec (Cond.code yX11_rename cX11_rename 12 (some .int) :: q_T) ({ frames := 9, cells := 0, slots := 0, locals := 196 } : Room)).room s m ([.ref (a 0), .int o1, .long o2, .int o4, .long o5] : List Value).toArray below meth c H locs 0 0 (MQ below (q_Qi D vwCl (am_W a cI) (am_A a) r0 σ0) ([.ref (a 0), .int o1, .long o2, .int o4, .long o5] : List Value).toArray s 0 0 (am_A a)) (F0 m 230 ls []) := by
    intro x1 x4 x5 x7 x8 x9 u ls hl hF _ _ hP hS
    unfold fX11_rename_b230 at hF
    refine lv_aload_n hx hb dX11_rename_230 rfl (lv_at hl 0 rfl) ?_
    refine lv_iload hx hb dX11_rename_231 (lv_at hl 6 rfl) ?_
    obtain ⟨r49, u50, hc51, hF⟩ := q_bnd_some hF
    refine sx_ci (Wd := (am_W a cI)) (σ1 := u50) (q_runV (Wd := (am_W a cI)) (σ := u) (q0 := 0) (ci := 11) (T := TX11) (N := 72) (As := [.int x9]) (rest := []) hx hb hml hown hts hK hP (kt_X11_dropSlot hD hc51) cw_X11_446 rfl rfl ⟨Nat.le_of_ble_eq_true rfl, Nat.le_of_ble_eq_true rfl⟩ rfl rfl rfl hl.1 rfl (Nat.le_of_ble_eq_true rfl) dX11_rename_233) hS (fun H locs hP hS => ?_)
    refine lv_istore (lv' := [(11, .int r49), (0, .ref (a 0)), (1, .int x1), (4, .int x4), (5, .long x5), (7, .int x7), (8, .int x8), (9, .int x9)]) hx hb dX11_rename_236 hl (by decide) rfl (fun ls hl => ?_)
    refine lv_goto (tgt := 260) hx hb dX11_rename_238 (by decide) ?_
    exact hB260 x1 x4 x5 x7 x8 u50 ls (lv_sub hl [1, 2, 3, 4, 5, 6] rfl) hF _ _ hP hS
  have hB201 : ∀ (x1 : Int32) (x4 : Int32) (x5 : Int64) (x7 : Int32) (x8 : Int32) (x9 : Int32) (x10 : Int32) (y0 : Int32) (y1 : Int32) (u : q_St) (ls : Array Slot), lv_has ls 12 [(0, .ref (a 0)), (1, .int x1), (4, .int x4), (5, .long x5), (7, .int x7), (8, .int x8), (9, .int x9), (10, .int x10)] → fX11_rename_b201 N x1 x4 x5 x7 x8 x9 x10 y0 y1 u = some (r0, σ0) → ∀ (H : Heap) (locs : List Loc), va_P D vwCl (am_W a cI u) H → va_S (am_A a) s.heap H locs → W p l e (headSpec (Cond.code yX11_rename cX11_rename 12 (some .int) :: q_T) ({ frames := 9, cells := 0, slots := 0, locals := 196 } : Room)).room s m ([.ref (a 0), .int o1, .long o2, .int o4, .long o5] : List Value).toArray below meth c H locs 0 0 (MQ below (q_Qi D vwCl (am_W a cI) (am_A a) r0 σ0) ([.ref (a 0), .int o1, .long o2, .int o4, .long o5] : List Value).toArray s 0 0 (am_A a)) (F0 m 201 ls [.int y0, .int y1]) := by
    intro x1 x4 x5 x7 x8 x9 x10 y0 y1 u ls hl hF _ _ hP hS
    unfold fX11_rename_b201 at hF
    refine sx_icmp_eq (tgt := 207) hx hb hF dX11_rename_201 (by decide) (fun hF => ?_) (fun hF => ?_)
    · refine lv_aload_n hx hb dX11_rename_207 rfl (lv_at hl 0 rfl) ?_
      refine gm_m_kind hx hb hts hown hK hP fl_X11_40 dX11_rename_208 ?_
      refine lv_iload hx hb dX11_rename_211 (lv_at hl 7 rfl) ?_
      refine lm_m_kind hx hb hK hP hF dX11_rename_213 (fun v48 hF => ?_)
      refine lv_iconst (v := 2) hx hb dX11_rename_214 (by decide) ?_
      refine sx_icmp_ne (tgt := 230) hx hb hF dX11_rename_215 (by decide) (fun hF => ?_) (fun hF => ?_)
      · exact hB230 x1 x4 x5 x7 x8 x9 u ls (lv_sub hl [0, 1, 2, 3, 4, 5, 6] rfl) hF _ _ hP hS
      · refine lv_aload_n hx hb dX11_rename_218 rfl (lv_at hl 0 rfl) ?_
        refine lv_iload hx hb dX11_rename_219 (lv_at hl 7 rfl) ?_
        obtain ⟨r52, u53, hc54, hF⟩ := q_bnd_some hF
        refine sx_ci (Wd := (am_W a cI)) (σ1 := u53) (q_runV (Wd := (am_W a cI)) (σ := u) (q0 := 0) (ci := 11) (T := TX11) (N := 72) (As := [.int x10]) (rest := []) hx hb hml hown hts hK hP (kt_X11_names hD hc54) cw_X11_443 rfl rfl ⟨Nat.le_of_ble_eq_true rfl, Nat.le_of_ble_eq_true rfl⟩ rfl rfl rfl hl.1 rfl (Nat.le_of_ble_eq_true rfl) dX11_rename_221) hS (fun H locs hP hS => ?_)
        refine sx_if_le (tgt := 230) hx hb hF dX11_rename_224 (by decide) (fun hF => ?_) (fun hF => ?_)
        · exact hB230 x1 x4 x5 x7 x8 x9 u53 ls (lv_sub hl [0, 1, 2, 3, 4, 5, 6] rfl) hF _ _ hP hS
        · refine lv_bipush (v := (-17)) hx hb dX11_rename_227 (by decide) ?_
          exact sx_reti (Wd := (am_W a cI)) (σ := u53) hx hb hr hF hP hS hlocks dX11_rename_229
    · refine lv_bipush (v := (-13)) hx hb dX11_rename_204 (by decide) ?_
      exact sx_reti (Wd := (am_W a cI)) (σ := u) hx hb hr hF hP hS hlocks dX11_rename_206
  have hB185 : ∀ (x1 : Int32) (x4 : Int32) (x5 : Int64) (x7 : Int32) (x8 : Int32) (x9 : Int32) (x10 : Int32) (y0 : Int32) (u : q_St) (ls : Array Slot), lv_has ls 12 [(0, .ref (a 0)), (1, .int x1), (4, .int x4), (5, .long x5), (7, .int x7), (8, .int x8), (9, .int x9), (10, .int x10)] → fX11_rename_b185 N x1 x4 x5 x7 x8 x9 x10 y0 u = some (r0, σ0) → ∀ (H : Heap) (locs : List Loc), va_P D vwCl (am_W a cI u) H → va_S (am_A a) s.heap H locs → W p l e (headSpec (Cond.code yX11_rename cX11_rename 12 (some .int) :: q_T) ({ frames := 9, cells := 0, slots := 0, locals := 196 } : Room)).room s m ([.ref (a 0), .int o1, .long o2, .int o4, .long o5] : List Value).toArray below meth c H locs 0 0 (MQ below (q_Qi D vwCl (am_W a cI) (am_A a) r0 σ0) ([.ref (a 0), .int o1, .long o2, .int o4, .long o5] : List Value).toArray s 0 0 (am_A a)) (F0 m 185 ls [.int y0]) := by
    intro x1 x4 x5 x7 x8 x9 x10 y0 u ls hl hF _ _ hP hS
    unfold fX11_rename_b185 at hF
    refine lv_aload_n hx hb dX11_rename_185 rfl (lv_at hl 0 rfl) ?_
    refine gm_m_kind hx hb hts hown hK hP fl_X11_40 dX11_rename_186 ?_
    refine lv_iload hx hb dX11_rename_189 (lv_at hl 5 rfl) ?_
    refine lm_m_kind hx hb hK hP hF dX11_rename_191 (fun v47 hF => ?_)
    refine lv_iconst (v := 2) hx hb dX11_rename_192 (by decide) ?_
    refine sx_icmp_ne (tgt := 200) hx hb hF dX11_rename_193 (by decide) (fun hF => ?_) (fun hF => ?_)
    · refine lv_iconst (v := 0) hx hb dX11_rename_200 (by decide) ?_
      exact hB201 x1 x4 x5 x7 x8 x9 x10 0 y0 u ls (lv_sub hl [0, 1, 2, 3, 4, 5, 6, 7] rfl) hF _ _ hP hS
    · refine lv_iconst (v := 1) hx hb dX11_rename_196 (by decide) ?_
      refine lv_goto (tgt := 201) hx hb dX11_rename_197 (by decide) ?_
      exact hB201 x1 x4 x5 x7 x8 x9 x10 1 y0 u ls (lv_sub hl [0, 1, 2, 3, 4, 5, 6, 7] rfl) hF _ _ hP hS
  have hB137 : ∀ (x1 : Int32) (x4 : Int32) (x5 : Int64) (x7 : Int32) (x8 : Int32) (u : q_St) (ls : Array Slot), lv_has ls 12 [(0, .ref (a 0)), (1, .int x1), (4, .int x4), (5, .long x5), (7, .int x7), (8, .int x8)] → fX11_rename_b137 N x1 x4 x5 x7 x8 u = some (r0, σ0) → ∀ (H : Heap) (locs : List Loc), va_P D vwCl (am_W a cI u) H → va_S (am_A a) s.heap H locs → W p l e (headSpec (Cond.code yX11_rename cX11_rename 12 (some .int) :: q_T) ({ frames := 9, cells := 0, slots := 0, locals := 196 } : Room)).room s m ([.ref (a 0), .int o1, .long o2, .int o4, .long o5] : List Value).toArray below meth c H locs 0 0 (MQ below (q_Qi D vwCl (am_W a cI) (am_A a) r0 σ0) ([.ref (a 0), .int o1, .long o2, .int o4, .long o5] : List Value).toArray s 0 0 (am_A a)) (F0 m 137 ls []) := by
    intro x1 x4 x5 x7 x8 u ls hl hF _ _ hP hS
    unfold fX11_rename_b137 at hF
    refine lv_aload_n hx hb dX11_rename_137 rfl (lv_at hl 0 rfl) ?_
    refine lv_iload hx hb dX11_rename_138 (lv_at hl 2 rfl) ?_
    refine lv_lload hx hb dX11_rename_140 (lv_at hl 3 rfl) ?_
    obtain ⟨r27, u28, hc29, hF⟩ := q_bnd_some hF
    refine sx_ci (Wd := (am_W a cI)) (σ1 := u28) (q_runV (Wd := (am_W a cI)) (σ := u) (q0 := 0) (ci := 11) (T := TX11) (N := 72) (As := [.int x4, .long x5]) (rest := []) hx hb hml hown hts hK hP (kt_X11_slotOf hD hc29) cw_X11_349 rfl rfl ⟨Nat.le_of_ble_eq_true rfl, Nat.le_of_ble_eq_true rfl⟩ rfl rfl rfl hl.1 rfl (Nat.le_of_ble_eq_true rfl) dX11_rename_142) hS (fun H locs hP hS => ?_)
    refine lv_istore (lv' := [(9, .int r27), (0, .ref (a 0)), (1, .int x1), (4, .int x4), (5, .long x5), (7, .int x7), (8, .int x8)]) hx hb dX11_rename_145 hl (by decide) rfl (fun ls hl => ?_)
    refine lv_iload hx hb dX11_rename_147 (lv_at hl 0 rfl) ?_
    refine lv_iconst (v := (-1)) hx hb dX11_rename_149 (by decide) ?_
    refine sx_icmp_eq (tgt := 241) hx hb hF dX11_rename_150 (by decide) (fun hF => ?_) (fun hF => ?_)
    · refine lv_iload_n hx hb dX11_rename_241 rfl (lv_at hl 2 rfl) ?_
      refine lv_iload hx hb dX11_rename_242 (lv_at hl 3 rfl) ?_
      refine sx_icmp_eq (tgt := 260) hx hb hF dX11_rename_244 (by decide) (fun hF => ?_) (fun hF => ?_)
      · exact hB260 x1 x4 x5 x7 x8 u28 ls (lv_sub hl [1, 2, 3, 4, 5, 6] rfl) hF _ _ hP hS
      · refine lv_aload_n hx hb dX11_rename_247 rfl (lv_at hl 1 rfl) ?_
        refine lv_iload hx hb dX11_rename_248 (lv_at hl 3 rfl) ?_
        refine lv_iconst (v := (-1)) hx hb dX11_rename_250 (by decide) ?_
        obtain ⟨r42, u43, hc44, hF⟩ := q_bnd_some hF
        refine sx_ci (Wd := (am_W a cI)) (σ1 := u43) (q_runV (Wd := (am_W a cI)) (σ := u28) (q0 := 0) (ci := 11) (T := TX11) (N := 72) (As := [.int x4, .int (-1)]) (rest := []) hx hb hml hown hts hK hP (kt_X11_hasRoom hD hc44) cw_X11_359 rfl rfl ⟨Nat.le_of_ble_eq_true rfl, Nat.le_of_ble_eq_true rfl⟩ rfl rfl rfl hl.1 rfl (Nat.le_of_ble_eq_true rfl) dX11_rename_251) hS (fun H locs hP hS => ?_)
        refine sx_if_ne (tgt := 260) hx hb hF dX11_rename_254 (by decide) (fun hF => ?_) (fun hF => ?_)
        · exact hB260 x1 x4 x5 x7 x8 u43 ls (lv_sub hl [1, 2, 3, 4, 5, 6] rfl) hF _ _ hP hS
        · refine lv_bipush (v := (-16)) hx hb dX11_rename_257 (by decide) ?_
          exact sx_reti (Wd := (am_W a cI)) (σ := u43) hx hb hr hF hP hS hlocks dX11_rename_259
    · refine lv_aload_n hx hb dX11_rename_153 rfl (lv_at hl 1 rfl) ?_
      refine gm_m_slotNode hx hb hts hown hK hP fl_X11_68 dX11_rename_154 ?_
      refine lv_iload hx hb dX11_rename_157 (lv_at hl 0 rfl) ?_
      refine lm_m_slotNode hx hb hK hP hF dX11_rename_159 (fun v45 hF => ?_)
      refine lv_istore (lv' := [(10, .int v45), (9, .int r27), (0, .ref (a 0)), (1, .int x1), (4, .int x4), (5, .long x5), (7, .int x7), (8, .int x8)]) hx hb dX11_rename_160 hl (by decide) rfl (fun ls hl => ?_)
      refine lv_iload hx hb dX11_rename_162 (lv_at hl 0 rfl) ?_
      refine lv_iload hx hb dX11_rename_164 (lv_at hl 7 rfl) ?_
      refine sx_icmp_eq (tgt := 204) hx hb hF dX11_rename_166 (by decide) (fun hF => ?_) (fun hF => ?_)
      · refine lv_bipush (v := (-13)) hx hb dX11_rename_204 (by decide) ?_
        exact sx_reti (Wd := (am_W a cI)) (σ := u28) hx hb hr hF hP hS hlocks dX11_rename_206
      · refine lv_aload_n hx hb dX11_rename_169 rfl (lv_at hl 2 rfl) ?_
        refine gm_m_kind hx hb hts hown hK hP fl_X11_40 dX11_rename_170 ?_
        refine lv_iload hx hb dX11_rename_173 (lv_at hl 0 rfl) ?_
        refine lm_m_kind hx hb hK hP hF dX11_rename_175 (fun v46 hF => ?_)
        refine lv_iconst (v := 2) hx hb dX11_rename_176 (by decide) ?_
        refine sx_icmp_ne (tgt := 184) hx hb hF dX11_rename_177 (by decide) (fun hF => ?_) (fun hF => ?_)
        · refine lv_iconst (v := 0) hx hb dX11_rename_184 (by decide) ?_
          exact hB185 x1 x4 x5 x7 x8 r27 v45 0 u28 ls (lv_sub hl [2, 3, 4, 5, 6, 7, 1, 0] rfl) hF _ _ hP hS
        · refine lv_iconst (v := 1) hx hb dX11_rename_180 (by decide) ?_
          refine lv_goto (tgt := 185) hx hb dX11_rename_181 (by decide) ?_
          exact hB185 x1 x4 x5 x7 x8 r27 v45 1 u28 ls (lv_sub hl [2, 3, 4, 5, 6, 7, 1, 0] rfl) hF _ _ hP hS
  have hB112 : ∀ (x1 : Int32) (x4 : Int32) (x5 : Int64) (x7 : Int32) (x8 : Int32) (u : q_St) (ls : Array Slot), lv_has ls 12 [(0, .ref (a 0)), (1, .int x1), (4, .int x4), (5, .long x5), (7, .int x7), (8, .int x8)] → fX11_rename_b112 N x1 x4 x5 x7 x8 u = some (r0, σ0) → ∀ (H : Heap) (locs : List Loc), va_P D vwCl (am_W a cI u) H → va_S (am_A a) s.heap H locs → W p l e (headSpec (Cond.code yX11_rename cX11_rename 12 (some .int) :: q_T) ({ frames := 9, cells := 0, slots := 0, locals := 196 } : Room)).room s m ([.ref (a 0), .int o1, .long o2, .int o4, .long o5] : List Value).toArray below meth c H locs 0 0 (MQ below (q_Qi D vwCl (am_W a cI) (am_A a) r0 σ0) ([.ref (a 0), .int o1, .long o2, .int o4, .long o5] : List Value).toArray s 0 0 (am_A a)) (F0 m 112 ls []) := by
    intro x1 x4 x5 x7 x8 u ls hl hF _ _ hP hS
    unfold fX11_rename_b112 at hF
    refine lv_aload_n hx hb dX11_rename_112 rfl (lv_at hl 0 rfl) ?_
    refine gm_m_kind hx hb hts hown hK hP fl_X11_40 dX11_rename_113 ?_
    refine lv_iload hx hb dX11_rename_116 (lv_at hl 5 rfl) ?_
    refine lm_m_kind hx hb hK hP hF dX11_rename_118 (fun v26 hF => ?_)
    refine lv_iconst (v := 2) hx hb dX11_rename_119 (by decide) ?_
    refine sx_icmp_ne (tgt := 137) hx hb hF dX11_rename_120 (by decide) (fun hF => ?_) (fun hF => ?_)
    · exact hB137 x1 x4 x5 x7 x8 u ls (lv_sub hl [0, 1, 2, 3, 4, 5] rfl) hF _ _ hP hS
    · refine lv_aload_n hx hb dX11_rename_123 rfl (lv_at hl 0 rfl) ?_
      refine lv_iload hx hb dX11_rename_124 (lv_at hl 2 rfl) ?_
      refine lv_iload hx hb dX11_rename_126 (lv_at hl 5 rfl) ?_
      obtain ⟨r55, u56, hc57, hF⟩ := q_bnd_some hF
      refine sx_ci (Wd := (am_W a cI)) (σ1 := u56) (q_runV (Wd := (am_W a cI)) (σ := u) (q0 := 0) (ci := 11) (T := TX11) (N := 72) (As := [.int x4, .int x8]) (rest := []) hx hb hml hown hts hK hP (kt_X11_isIn hD hc57) cw_X11_455 rfl rfl ⟨Nat.le_of_ble_eq_true rfl, Nat.le_of_ble_eq_true rfl⟩ rfl rfl rfl hl.1 rfl (Nat.le_of_ble_eq_true rfl) dX11_rename_128) hS (fun H locs hP hS => ?_)
      refine sx_if_eq (tgt := 137) hx hb hF dX11_rename_131 (by decide) (fun hF => ?_) (fun hF => ?_)
      · exact hB137 x1 x4 x5 x7 x8 u56 ls (lv_sub hl [0, 1, 2, 3, 4, 5] rfl) hF _ _ hP hS
      · refine lv_bipush (v := (-18)) hx hb dX11_rename_134 (by decide) ?_
        exact sx_reti (Wd := (am_W a cI)) (σ := u56) hx hb hr hF hP hS hlocks dX11_rename_136
  unfold fX11_rename at hF
  refine lv_aload_n hx hb dX11_rename_0 rfl (lv_at hl 0 rfl) ?_
  obtain ⟨r1, u2, hc3, hF⟩ := q_bnd_some hF
  refine sx_ci (Wd := (am_W a cI)) (σ1 := u2) (q_runV (Wd := (am_W a cI)) (σ := u) (q0 := 0) (ci := 11) (T := TX11) (N := 72) (As := []) (rest := []) hx hb hml hown hts hK hP (kt_X11_begins hD hc3) cw_X11_333 rfl rfl ⟨Nat.le_of_ble_eq_true rfl, Nat.le_of_ble_eq_true rfl⟩ rfl rfl rfl hl.1 rfl (Nat.le_of_ble_eq_true rfl) dX11_rename_1) hS (fun H locs hP hS => ?_)
  refine sx_if_ne (tgt := 10) hx hb hF dX11_rename_4 (by decide) (fun hF => ?_) (fun hF => ?_)
  · refine lv_aload_n hx hb dX11_rename_10 rfl (lv_at hl 0 rfl) ?_
    refine lv_iload_n hx hb dX11_rename_11 rfl (lv_at hl 1 rfl) ?_
    obtain ⟨r4, u5, hc6, hF⟩ := q_bnd_some hF
    refine sx_ci (Wd := (am_W a cI)) (σ1 := u5) (q_runV (Wd := (am_W a cI)) (σ := u2) (q0 := 0) (ci := 11) (T := TX11) (N := 72) (As := [.int o1]) (rest := []) hx hb hml hown hts hK hP (kt_X11_isDirectory hD hc6) cw_X11_339 rfl rfl ⟨Nat.le_of_ble_eq_true rfl, Nat.le_of_ble_eq_true rfl⟩ rfl rfl rfl hl.1 rfl (Nat.le_of_ble_eq_true rfl) dX11_rename_12) hS (fun H locs hP hS => ?_)
    refine sx_if_eq (tgt := 27) hx hb hF dX11_rename_15 (by decide) (fun hF => ?_) (fun hF => ?_)
    · refine lv_bipush (v := (-10)) hx hb dX11_rename_27 (by decide) ?_
      exact sx_reti (Wd := (am_W a cI)) (σ := u5) hx hb hr hF hP hS hlocks dX11_rename_29
    · refine lv_aload_n hx hb dX11_rename_18 rfl (lv_at hl 0 rfl) ?_
      refine lv_iload hx hb dX11_rename_19 (lv_at hl 3 rfl) ?_
      obtain ⟨r7, u8, hc9, hF⟩ := q_bnd_some hF
      refine sx_ci (Wd := (am_W a cI)) (σ1 := u8) (q_runV (Wd := (am_W a cI)) (σ := u5) (q0 := 0) (ci := 11) (T := TX11) (N := 72) (As := [.int o4]) (rest := []) hx hb hml hown hts hK hP (kt_X11_isDirectory hD hc9) cw_X11_339 rfl rfl ⟨Nat.le_of_ble_eq_true rfl, Nat.le_of_ble_eq_true rfl⟩ rfl rfl rfl hl.1 rfl (Nat.le_of_ble_eq_true rfl) dX11_rename_21) hS (fun H locs hP hS => ?_)
      refine sx_if_ne (tgt := 30) hx hb hF dX11_rename_24 (by decide) (fun hF => ?_) (fun hF => ?_)
      · refine lv_lload_n hx hb dX11_rename_30 rfl (lv_at hl 2 rfl) ?_
        obtain ⟨r10, u11, hc12, hF⟩ := q_bnd_some hF
        refine sx_ci (Wd := (am_W a cI)) (σ1 := u11) (q_runS (Wd := (am_W a cI)) (σ := u8) (As := [.long o2]) (rest := []) hx hb hml hown hts hK hP (kt_X11_isName hD hc12) cw_X11_342 rfl rfl ⟨Nat.le_of_ble_eq_true rfl, Nat.le_of_ble_eq_true rfl⟩ rfl hl.1 rfl (Nat.le_of_ble_eq_true rfl) dX11_rename_31) hS (fun H locs hP hS => ?_)
        refine sx_if_eq (tgt := 45) hx hb hF dX11_rename_34 (by decide) (fun hF => ?_) (fun hF => ?_)
        · refine lv_bipush (v := (-11)) hx hb dX11_rename_45 (by decide) ?_
          exact sx_reti (Wd := (am_W a cI)) (σ := u11) hx hb hr hF hP hS hlocks dX11_rename_47
        · refine lv_lload hx hb dX11_rename_37 (lv_at hl 4 rfl) ?_
          obtain ⟨r13, u14, hc15, hF⟩ := q_bnd_some hF
          refine sx_ci (Wd := (am_W a cI)) (σ1 := u14) (q_runS (Wd := (am_W a cI)) (σ := u11) (As := [.long o5]) (rest := []) hx hb hml hown hts hK hP (kt_X11_isName hD hc15) cw_X11_342 rfl rfl ⟨Nat.le_of_ble_eq_true rfl, Nat.le_of_ble_eq_true rfl⟩ rfl hl.1 rfl (Nat.le_of_ble_eq_true rfl) dX11_rename_39) hS (fun H locs hP hS => ?_)
          refine sx_if_ne (tgt := 48) hx hb hF dX11_rename_42 (by decide) (fun hF => ?_) (fun hF => ?_)
          · refine lv_aload_n hx hb dX11_rename_48 rfl (lv_at hl 0 rfl) ?_
            refine lv_iload_n hx hb dX11_rename_49 rfl (lv_at hl 1 rfl) ?_
            refine lv_iconst (v := 3) hx hb dX11_rename_50 (by decide) ?_
            obtain ⟨r16, u17, hc18, hF⟩ := q_bnd_some hF
            refine sx_ci (Wd := (am_W a cI)) (σ1 := u17) (q_runV (Wd := (am_W a cI)) (σ := u14) (q0 := 0) (ci := 11) (T := TX11) (N := 72) (As := [.int o1, .int 3]) (rest := []) hx hb hml hown hts hK hP (kt_X11_may hD hc18) cw_X11_346 rfl rfl ⟨Nat.le_of_ble_eq_true rfl, Nat.le_of_ble_eq_true rfl⟩ rfl rfl rfl hl.1 rfl (Nat.le_of_ble_eq_true rfl) dX11_rename_51) hS (fun H locs hP hS => ?_)
            refine sx_if_eq (tgt := 67) hx hb hF dX11_rename_54 (by decide) (fun hF => ?_) (fun hF => ?_)
            · refine lv_bipush (v := (-20)) hx hb dX11_rename_67 (by decide) ?_
              exact sx_reti (Wd := (am_W a cI)) (σ := u17) hx hb hr hF hP hS hlocks dX11_rename_69
            · refine lv_aload_n hx hb dX11_rename_57 rfl (lv_at hl 0 rfl) ?_
              refine lv_iload hx hb dX11_rename_58 (lv_at hl 3 rfl) ?_
              refine lv_iconst (v := 3) hx hb dX11_rename_60 (by decide) ?_
              obtain ⟨r19, u20, hc21, hF⟩ := q_bnd_some hF
              refine sx_ci (Wd := (am_W a cI)) (σ1 := u20) (q_runV (Wd := (am_W a cI)) (σ := u17) (q0 := 0) (ci := 11) (T := TX11) (N := 72) (As := [.int o4, .int 3]) (rest := []) hx hb hml hown hts hK hP (kt_X11_may hD hc21) cw_X11_346 rfl rfl ⟨Nat.le_of_ble_eq_true rfl, Nat.le_of_ble_eq_true rfl⟩ rfl rfl rfl hl.1 rfl (Nat.le_of_ble_eq_true rfl) dX11_rename_61) hS (fun H locs hP hS => ?_)
              refine sx_if_ne (tgt := 70) hx hb hF dX11_rename_64 (by decide) (fun hF => ?_) (fun hF => ?_)
              · refine lv_aload_n hx hb dX11_rename_70 rfl (lv_at hl 0 rfl) ?_
                refine lv_iload_n hx hb dX11_rename_71 rfl (lv_at hl 1 rfl) ?_
                refine lv_lload_n hx hb dX11_rename_72 rfl (lv_at hl 2 rfl) ?_
                obtain ⟨r22, u23, hc24, hF⟩ := q_bnd_some hF
                refine sx_ci (Wd := (am_W a cI)) (σ1 := u23) (q_runV (Wd := (am_W a cI)) (σ := u20) (q0 := 0) (ci := 11) (T := TX11) (N := 72) (As := [.int o1, .long o2]) (rest := []) hx hb hml hown hts hK hP (kt_X11_slotOf hD hc24) cw_X11_349 rfl rfl ⟨Nat.le_of_ble_eq_true rfl, Nat.le_of_ble_eq_true rfl⟩ rfl rfl rfl hl.1 rfl (Nat.le_of_ble_eq_true rfl) dX11_rename_73) hS (fun H locs hP hS => ?_)
                refine lv_istore (lv' := [(7, .int r22), (0, .ref (a 0)), (1, .int o1), (2, .long o2), (4, .int o4), (5, .long o5)]) hx hb dX11_rename_76 hl (by decide) rfl (fun ls hl => ?_)
                refine lv_iload hx hb dX11_rename_78 (lv_at hl 0 rfl) ?_
                refine lv_iconst (v := (-1)) hx hb dX11_rename_80 (by decide) ?_
                refine sx_icmp_ne (tgt := 87) hx hb hF dX11_rename_81 (by decide) (fun hF => ?_) (fun hF => ?_)
                · refine lv_aload_n hx hb dX11_rename_87 rfl (lv_at hl 1 rfl) ?_
                  refine gm_m_slotNode hx hb hts hown hK hP fl_X11_68 dX11_rename_88 ?_
                  refine lv_iload hx hb dX11_rename_91 (lv_at hl 0 rfl) ?_
                  refine lm_m_slotNode hx hb hK hP hF dX11_rename_93 (fun v25 hF => ?_)
                  refine lv_istore (lv' := [(8, .int v25), (7, .int r22), (0, .ref (a 0)), (1, .int o1), (2, .long o2), (4, .int o4), (5, .long o5)]) hx hb dX11_rename_94 hl (by decide) rfl (fun ls hl => ?_)
                  refine lv_iload_n hx hb dX11_rename_96 rfl (lv_at hl 3 rfl) ?_
                  refine lv_iload hx hb dX11_rename_97 (lv_at hl 5 rfl) ?_
                  refine sx_icmp_ne (tgt := 112) hx hb hF dX11_rename_99 (by decide) (fun hF => ?_) (fun hF => ?_)
                  · exact hB112 o1 o4 o5 r22 v25 u23 ls (lv_sub hl [2, 3, 5, 6, 1, 0] rfl) hF _ _ hP hS
                  · refine lv_lload_n hx hb dX11_rename_102 rfl (lv_at hl 4 rfl) ?_
                    refine lv_lload hx hb dX11_rename_103 (lv_at hl 6 rfl) ?_
                    refine W.lcmp hx hb dX11_rename_105 ?_
                    refine sx_if_ne (tgt := 112) hx hb hF dX11_rename_106 (by decide) (fun hF => ?_) (fun hF => ?_)
                    · exact hB112 o1 o4 o5 r22 v25 u23 ls (lv_sub hl [2, 3, 5, 6, 1, 0] rfl) hF _ _ hP hS
                    · refine lv_iload hx hb dX11_rename_109 (lv_at hl 0 rfl) ?_
                      exact sx_reti (Wd := (am_W a cI)) (σ := u23) hx hb hr hF hP hS hlocks dX11_rename_111
                · refine lv_bipush (v := (-12)) hx hb dX11_rename_84 (by decide) ?_
                  exact sx_reti (Wd := (am_W a cI)) (σ := u23) hx hb hr hF hP hS hlocks dX11_rename_86
              · refine lv_bipush (v := (-20)) hx hb dX11_rename_67 (by decide) ?_
                exact sx_reti (Wd := (am_W a cI)) (σ := u20) hx hb hr hF hP hS hlocks dX11_rename_69
          · refine lv_bipush (v := (-11)) hx hb dX11_rename_45 (by decide) ?_
            exact sx_reti (Wd := (am_W a cI)) (σ := u14) hx hb hr hF hP hS hlocks dX11_rename_47
      · refine lv_bipush (v := (-10)) hx hb dX11_rename_27 (by decide) ?_
        exact sx_reti (Wd := (am_W a cI)) (σ := u8) hx hb hr hF hP hS hlocks dX11_rename_29
  · refine lv_bipush (v := (-99)) hx hb dX11_rename_7 (by decide) ?_
    exact sx_reti (Wd := (am_W a cI)) (σ := u2) hx hb hr hF hP hS hlocks dX11_rename_9
set_option maxHeartbeats 4000000 in
set_option maxRecDepth 100000 in
theorem kt_X11_find {N : Nat} {l : Launch} {D : va_G} {a : Nat → Nat} {cI : Nat → ClassId} (hD : ∀ σ, va_D (am_A a) (am_W a cI σ)) {o1 : Int32} {o2 : Int64} {u σ0 : q_St} {r0 : Int32} (hF : fX11_find N o1 o2 u = some (r0, σ0)) : Met l yX11_find (Cond.code yX11_find cX11_find 5 (some .int) :: q_T) ({ frames := 2, cells := 0, slots := 0, locals := 45 } : Room) (q_P D vwCl (am_T cI) (am_W a cI) [.ref (a 0), .int o1, .long o2] u) (q_Qi D vwCl (am_W a cI) (am_A a) r0 σ0) 0 0 (am_A a) := by
  refine Met.ofW (cc := cX11_find) (maxL := 5) (ret := (some .int)) (by decide) rfl ?_
  intro p e s m args below meth c s₁ B hml hv
  obtain ⟨rfl, hP, hK⟩ := hv
  have hx := B.exec
  have hb := B.bytes
  have hr := B.returns
  have hts := q_ts (atoms_spec (ws := Cond.code yX11_find cX11_find 5 (some .int) :: q_T) B.pre)
  have hown : s.vm.findClass RX11 = some m.cls := findClass_of_methodNamed B.named
  have hlocks := B.notSynchronized
  have hS : va_S (am_A a) s.heap s.heap [] := va_S.rf
  have hl := lv_entry ([.ref (a 0), .int o1, .long o2]) (n := 5) (Nat.le_of_ble_eq_true rfl)
  rw [lg_entry_eq]
  generalize (lg_sl ([.ref (a 0), .int o1, .long o2]) ++ List.replicate (5 - (lg_sl ([.ref (a 0), .int o1, .long o2])).length) Slot.unset).toArray = ls at hl ⊢
  have hl : lv_has ls 5 [(0, .ref (a 0)), (1, .int o1), (2, .long o2)] := hl
  unfold fX11_find at hF
  refine lv_aload_n hx hb dX11_find_0 rfl (lv_at hl 0 rfl) ?_
  refine gm_m_isOn hx hb hts hown hK hP fl_X11_7 dX11_find_1 ?_
  refine sx_if_ne (tgt := 10) hx hb hF dX11_find_4 (by decide) (fun hF => ?_) (fun hF => ?_)
  · refine lv_aload_n hx hb dX11_find_10 rfl (lv_at hl 0 rfl) ?_
    refine lv_iload_n hx hb dX11_find_11 rfl (lv_at hl 1 rfl) ?_
    obtain ⟨r1, u2, hc3, hF⟩ := q_bnd_some hF
    refine sx_ci (Wd := (am_W a cI)) (σ1 := u2) (q_runV (Wd := (am_W a cI)) (σ := u) (q0 := 0) (ci := 11) (T := TX11) (N := 72) (As := [.int o1]) (rest := []) hx hb hml hown hts hK hP (kt_X11_isDirectory hD hc3) cw_X11_339 rfl rfl ⟨Nat.le_of_ble_eq_true rfl, Nat.le_of_ble_eq_true rfl⟩ rfl rfl rfl hl.1 rfl (Nat.le_of_ble_eq_true rfl) dX11_find_12) hS (fun H locs hP hS => ?_)
    refine sx_if_ne (tgt := 21) hx hb hF dX11_find_15 (by decide) (fun hF => ?_) (fun hF => ?_)
    · refine lv_lload_n hx hb dX11_find_21 rfl (lv_at hl 2 rfl) ?_
      obtain ⟨r4, u5, hc6, hF⟩ := q_bnd_some hF
      refine sx_ci (Wd := (am_W a cI)) (σ1 := u5) (q_runS (Wd := (am_W a cI)) (σ := u2) (As := [.long o2]) (rest := []) hx hb hml hown hts hK hP (kt_X11_isName hD hc6) cw_X11_342 rfl rfl ⟨Nat.le_of_ble_eq_true rfl, Nat.le_of_ble_eq_true rfl⟩ rfl hl.1 rfl (Nat.le_of_ble_eq_true rfl) dX11_find_22) hS (fun H locs hP hS => ?_)
      refine sx_if_ne (tgt := 31) hx hb hF dX11_find_25 (by decide) (fun hF => ?_) (fun hF => ?_)
      · refine lv_aload_n hx hb dX11_find_31 rfl (lv_at hl 0 rfl) ?_
        refine lv_iload_n hx hb dX11_find_32 rfl (lv_at hl 1 rfl) ?_
        refine lv_iconst (v := 1) hx hb dX11_find_33 (by decide) ?_
        obtain ⟨r7, u8, hc9, hF⟩ := q_bnd_some hF
        refine sx_ci (Wd := (am_W a cI)) (σ1 := u8) (q_runV (Wd := (am_W a cI)) (σ := u5) (q0 := 0) (ci := 11) (T := TX11) (N := 72) (As := [.int o1, .int 1]) (rest := []) hx hb hml hown hts hK hP (kt_X11_may hD hc9) cw_X11_346 rfl rfl ⟨Nat.le_of_ble_eq_true rfl, Nat.le_of_ble_eq_true rfl⟩ rfl rfl rfl hl.1 rfl (Nat.le_of_ble_eq_true rfl) dX11_find_34) hS (fun H locs hP hS => ?_)
        refine sx_if_ne (tgt := 43) hx hb hF dX11_find_37 (by decide) (fun hF => ?_) (fun hF => ?_)
        · refine lv_aload_n hx hb dX11_find_43 rfl (lv_at hl 0 rfl) ?_
          refine lv_iload_n hx hb dX11_find_44 rfl (lv_at hl 1 rfl) ?_
          refine lv_lload_n hx hb dX11_find_45 rfl (lv_at hl 2 rfl) ?_
          obtain ⟨r10, u11, hc12, hF⟩ := q_bnd_some hF
          refine sx_ci (Wd := (am_W a cI)) (σ1 := u11) (q_runV (Wd := (am_W a cI)) (σ := u8) (q0 := 0) (ci := 11) (T := TX11) (N := 72) (As := [.int o1, .long o2]) (rest := []) hx hb hml hown hts hK hP (kt_X11_slotOf hD hc12) cw_X11_349 rfl rfl ⟨Nat.le_of_ble_eq_true rfl, Nat.le_of_ble_eq_true rfl⟩ rfl rfl rfl hl.1 rfl (Nat.le_of_ble_eq_true rfl) dX11_find_46) hS (fun H locs hP hS => ?_)
          refine lv_istore (lv' := [(4, .int r10), (0, .ref (a 0)), (1, .int o1), (2, .long o2)]) hx hb dX11_find_49 hl (by decide) rfl (fun ls hl => ?_)
          refine lv_iload hx hb dX11_find_51 (lv_at hl 0 rfl) ?_
          refine lv_iconst (v := (-1)) hx hb dX11_find_53 (by decide) ?_
          refine sx_icmp_ne (tgt := 62) hx hb hF dX11_find_54 (by decide) (fun hF => ?_) (fun hF => ?_)
          · refine lv_aload_n hx hb dX11_find_62 rfl (lv_at hl 1 rfl) ?_
            refine gm_m_slotNode hx hb hts hown hK hP fl_X11_68 dX11_find_63 ?_
            refine lv_iload hx hb dX11_find_66 (lv_at hl 0 rfl) ?_
            refine lm_m_slotNode hx hb hK hP hF dX11_find_68 (fun v13 hF => ?_)
            exact sx_reti (Wd := (am_W a cI)) (σ := u11) hx hb hr hF hP hS hlocks dX11_find_69
          · refine lv_bipush (v := (-12)) hx hb dX11_find_57 (by decide) ?_
            refine lv_goto (tgt := 69) hx hb dX11_find_59 (by decide) ?_
            exact sx_reti (Wd := (am_W a cI)) (σ := u11) hx hb hr hF hP hS hlocks dX11_find_69
        · refine lv_bipush (v := (-20)) hx hb dX11_find_40 (by decide) ?_
          exact sx_reti (Wd := (am_W a cI)) (σ := u8) hx hb hr hF hP hS hlocks dX11_find_42
      · refine lv_bipush (v := (-11)) hx hb dX11_find_28 (by decide) ?_
        exact sx_reti (Wd := (am_W a cI)) (σ := u5) hx hb hr hF hP hS hlocks dX11_find_30
    · refine lv_bipush (v := (-10)) hx hb dX11_find_18 (by decide) ?_
      exact sx_reti (Wd := (am_W a cI)) (σ := u2) hx hb hr hF hP hS hlocks dX11_find_20
  · refine lv_bipush (v := (-99)) hx hb dX11_find_7 (by decide) ?_
    exact sx_reti (Wd := (am_W a cI)) (σ := u) hx hb hr hF hP hS hlocks dX11_find_9
set_option maxHeartbeats 4000000 in
set_option maxRecDepth 100000 in
theorem kt_X11_isAhead {N : Nat} {l : Launch} {D : va_G} {a : Nat → Nat} {cI : Nat → ClassId} (hD : ∀ σ, va_D (am_A a) (am_W a cI σ)) {o0 : Int64} {o2 : Int64} {u σ0 : q_St} {r0 : Int32} (hF : fX11_isAhead N o0 o2 u = some (r0, σ0)) : Met l yX11_isAhead (Cond.code yX11_isAhead cX11_isAhead 5 (some .boolean) :: q_T) ({ frames := 1, cells := 0, slots := 0, locals := 22 } : Room) (q_P D vwCl (am_T cI) (am_W a cI) [.long o0, .long o2] u) (q_Qi D vwCl (am_W a cI) (am_A a) r0 σ0) 0 0 (am_A a) := by
  refine Met.ofW (cc := cX11_isAhead) (maxL := 5) (ret := (some .boolean)) (by decide) rfl ?_
  intro p e s m args below meth c s₁ B hml hv
  obtain ⟨rfl, hP, hK⟩ := hv
  have hx := B.exec
  have hb := B.bytes
  have hr := B.returns
  have hts := q_ts (atoms_spec (ws := Cond.code yX11_isAhead cX11_isAhead 5 (some .boolean) :: q_T) B.pre)
  have hown : s.vm.findClass RX11 = some m.cls := findClass_of_methodNamed B.named
  have hlocks := B.notSynchronized
  have hS : va_S (am_A a) s.heap s.heap [] := va_S.rf
  have hl := lv_entry ([.long o0, .long o2]) (n := 5) (Nat.le_of_ble_eq_true rfl)
  rw [lg_entry_eq]
  generalize (lg_sl ([.long o0, .long o2]) ++ List.replicate (5 - (lg_sl ([.long o0, .long o2])).length) Slot.unset).toArray = ls at hl ⊢
  have hl : lv_has ls 5 [(0, .long o0), (2, .long o2)] := hl
  have hB31 : ∀ (x0 : Int64) (x2 : Int64) (x4 : Int32) (u : q_St) (ls : Array Slot), lv_has ls 5 [(0, .long x0), (2, .long x2), (4, .int x4)] → fX11_isAhead_b31 N x0 x2 x4 u = some (r0, σ0) → ∀ (H : Heap) (locs : List Loc), va_P D vwCl (am_W a cI u) H → va_S (am_A a) s.heap H locs → W p l e (headSpec (Cond.code yX11_isAhead cX11_isAhead 5 (some .boolean) :: q_T) ({ frames := 1, cells := 0, slots := 0, locals := 22 } : Room)).room s m ([.long o0, .long o2] : List Value).toArray below meth c H locs 0 0 (MQ below (q_Qi D vwCl (am_W a cI) (am_A a) r0 σ0) ([.long o0, .long o2] : List Value).toArray s 0 0 (am_A a)) (F0 m 31 ls []) := by
    intro x0 x2 x4 u ls hl hF _ _ hP hS
    unfold fX11_isAhead_b31 at hF
    refine lv_lload_n hx hb dX11_isAhead_31 rfl (lv_at hl 0 rfl) ?_
    refine lv_iload hx hb dX11_isAhead_32 (lv_at hl 2 rfl) ?_
    obtain ⟨r1, u2, hc3, hF⟩ := q_bnd_some hF
    refine sx_ci (Wd := (am_W a cI)) (σ1 := u2) (q_runS (Wd := (am_W a cI)) (σ := u) (As := [.long x0, .int x4]) (rest := []) hx hb hml hown hts hK hP (kt_X11_letter hD hc3) cw_X11_308 rfl rfl ⟨Nat.le_of_ble_eq_true rfl, Nat.le_of_ble_eq_true rfl⟩ rfl hl.1 rfl (Nat.le_of_ble_eq_true rfl) dX11_isAhead_34) hS (fun H locs hP hS => ?_)
    refine lv_lload_n hx hb dX11_isAhead_37 rfl (lv_at hl 1 rfl) ?_
    refine lv_iload hx hb dX11_isAhead_38 (lv_at hl 2 rfl) ?_
    obtain ⟨r4, u5, hc6, hF⟩ := q_bnd_some hF
    refine sx_ci (Wd := (am_W a cI)) (σ1 := u5) (q_runS (Wd := (am_W a cI)) (σ := u2) (As := [.long x2, .int x4]) (rest := [.int r1]) hx hb hml hown hts hK hP (kt_X11_letter hD hc6) cw_X11_308 rfl rfl ⟨Nat.le_of_ble_eq_true rfl, Nat.le_of_ble_eq_true rfl⟩ rfl hl.1 rfl (Nat.le_of_ble_eq_true rfl) dX11_isAhead_40) hS (fun H locs hP hS => ?_)
    refine sx_icmp_ge (tgt := 50) hx hb hF dX11_isAhead_43 (by decide) (fun hF => ?_) (fun hF => ?_)
    · refine lv_iconst (v := 0) hx hb dX11_isAhead_50 (by decide) ?_
      exact sx_retz (Wd := (am_W a cI)) (σ := u5) hx hb hr (by decide) hF hP hS hlocks dX11_isAhead_51
    · refine lv_iconst (v := 1) hx hb dX11_isAhead_46 (by decide) ?_
      refine lv_goto (tgt := 51) hx hb dX11_isAhead_47 (by decide) ?_
      exact sx_retz (Wd := (am_W a cI)) (σ := u5) hx hb hr (by decide) hF hP hS hlocks dX11_isAhead_51
  have hB3 : ∀ (n : Nat) (x0 : Int64) (x2 : Int64) (x4 : Int32) (u : q_St) (ls : Array Slot), lv_has ls 5 [(0, .long x0), (2, .long x2), (4, .int x4)] → q_lp (fX11_isAhead_b3 N) (fun _ _ _ _ => none) n x0 x2 x4 u = some (r0, σ0) → ∀ (H : Heap) (locs : List Loc), va_P D vwCl (am_W a cI u) H → va_S (am_A a) s.heap H locs → W p l e (headSpec (Cond.code yX11_isAhead cX11_isAhead 5 (some .boolean) :: q_T) ({ frames := 1, cells := 0, slots := 0, locals := 22 } : Room)).room s m ([.long o0, .long o2] : List Value).toArray below meth c H locs 0 0 (MQ below (q_Qi D vwCl (am_W a cI) (am_A a) r0 σ0) ([.long o0, .long o2] : List Value).toArray s 0 0 (am_A a)) (F0 m 3 ls []) := by
    intro n
    induction n with
    | zero => intro x0 x2 x4 u ls hl hF; exact absurd (show (none : Option (Int32 × q_St)) = some _ from hF) (fun h => nomatch h)
    | succ n hi3 =>
      intro x0 x2 x4 u ls hl hF _ _ hP hS
      obtain ⟨ih3, hih⟩ : ∃ q, q = q_lp (fX11_isAhead_b3 N) (fun _ _ _ _ => none) n := ⟨_, rfl⟩
      rw [← hih] at hi3
      have hF : fX11_isAhead_b3 N (q_lp (fX11_isAhead_b3 N) (fun _ _ _ _ => none) n) x0 x2 x4 u = some (r0, σ0) := hF
      rw [← hih] at hF
      clear hih
      unfold fX11_isAhead_b3 at hF
      refine lv_iload hx hb dX11_isAhead_3 (lv_at hl 2 rfl) ?_
      refine lv_bipush (v := 8) hx hb dX11_isAhead_5 (by decide) ?_
      refine sx_icmp_ge (tgt := 31) hx hb hF dX11_isAhead_7 (by decide) (fun hF => ?_) (fun hF => ?_)
      · exact hB31 x0 x2 x4 u ls (lv_sub hl [0, 1, 2] rfl) hF _ _ hP hS
      · refine lv_lload_n hx hb dX11_isAhead_10 rfl (lv_at hl 0 rfl) ?_
        refine lv_iload hx hb dX11_isAhead_11 (lv_at hl 2 rfl) ?_
        obtain ⟨r7, u8, hc9, hF⟩ := q_bnd_some hF
        refine sx_ci (Wd := (am_W a cI)) (σ1 := u8) (q_runS (Wd := (am_W a cI)) (σ := u) (As := [.long x0, .int x4]) (rest := []) hx hb hml hown hts hK hP (kt_X11_letter hD hc9) cw_X11_308 rfl rfl ⟨Nat.le_of_ble_eq_true rfl, Nat.le_of_ble_eq_true rfl⟩ rfl hl.1 rfl (Nat.le_of_ble_eq_true rfl) dX11_isAhead_13) hS (fun H locs hP hS => ?_)
        refine lv_lload_n hx hb dX11_isAhead_16 rfl (lv_at hl 1 rfl) ?_
        refine lv_iload hx hb dX11_isAhead_17 (lv_at hl 2 rfl) ?_
        obtain ⟨r10, u11, hc12, hF⟩ := q_bnd_some hF
        refine sx_ci (Wd := (am_W a cI)) (σ1 := u11) (q_runS (Wd := (am_W a cI)) (σ := u8) (As := [.long x2, .int x4]) (rest := [.int r7]) hx hb hml hown hts hK hP (kt_X11_letter hD hc12) cw_X11_308 rfl rfl ⟨Nat.le_of_ble_eq_true rfl, Nat.le_of_ble_eq_true rfl⟩ rfl hl.1 rfl (Nat.le_of_ble_eq_true rfl) dX11_isAhead_19) hS (fun H locs hP hS => ?_)
        refine sx_icmp_ne (tgt := 31) hx hb hF dX11_isAhead_22 (by decide) (fun hF => ?_) (fun hF => ?_)
        · exact hB31 x0 x2 x4 u11 ls (lv_sub hl [0, 1, 2] rfl) hF _ _ hP hS
        · refine sx_iinc (d := 1) (k := 2) (lv2 := [(0, .long x0), (2, .long x2)]) hx hb hF dX11_isAhead_25 hl rfl (by decide) (by decide) rfl (fun v13 hF ls hl => ?_)
          refine lv_goto (tgt := 3) hx hb dX11_isAhead_28 (by decide) ?_
          exact hi3 x0 x2 v13 u11 ls (lv_sub hl [1, 2, 0] rfl) hF _ _ hP hS
  unfold fX11_isAhead at hF
  refine lv_iconst (v := 0) hx hb dX11_isAhead_0 (by decide) ?_
  refine lv_istore (lv' := [(4, .int 0), (0, .long o0), (2, .long o2)]) hx hb dX11_isAhead_1 hl (by decide) rfl (fun ls hl => ?_)
  exact hB3 N o0 o2 0 u ls (lv_sub hl [1, 2, 0] rfl) hF _ _ hP hS
set_option maxHeartbeats 4000000 in
set_option maxRecDepth 100000 in
theorem kt_X11_ordered {N : Nat} {l : Launch} {D : va_G} {a : Nat → Nat} {cI : Nat → ClassId} (hD : ∀ σ, va_D (am_A a) (am_W a cI σ)) {o1 : Int32} {o2 : Int32} {u σ0 : q_St} {r0 : Int32} (hF : fX11_ordered N o1 o2 u = some (r0, σ0)) : Met l yX11_ordered (Cond.code yX11_ordered cX11_ordered 6 (some .int) :: q_T) ({ frames := 2, cells := 0, slots := 0, locals := 46 } : Room) (q_P D vwCl (am_T cI) (am_W a cI) [.ref (a 0), .int o1, .int o2] u) (q_Qi D vwCl (am_W a cI) (am_A a) r0 σ0) 0 0 (am_A a) := by
  refine Met.ofW (cc := cX11_ordered) (maxL := 6) (ret := (some .int)) (by decide) rfl ?_
  intro p e s m args below meth c s₁ B hml hv
  obtain ⟨rfl, hP, hK⟩ := hv
  have hx := B.exec
  have hb := B.bytes
  have hr := B.returns
  have hts := q_ts (atoms_spec (ws := Cond.code yX11_ordered cX11_ordered 6 (some .int) :: q_T) B.pre)
  have hown : s.vm.findClass RX11 = some m.cls := findClass_of_methodNamed B.named
  have hlocks := B.notSynchronized
  have hS : va_S (am_A a) s.heap s.heap [] := va_S.rf
  have hl := lv_entry ([.ref (a 0), .int o1, .int o2]) (n := 6) (Nat.le_of_ble_eq_true rfl)
  rw [lg_entry_eq]
  generalize (lg_sl ([.ref (a 0), .int o1, .int o2]) ++ List.replicate (6 - (lg_sl ([.ref (a 0), .int o1, .int o2])).length) Slot.unset).toArray = ls at hl ⊢
  have hl : lv_has ls 6 [(0, .ref (a 0)), (1, .int o1), (2, .int o2)] := hl
  have hB110 : ∀ (ih5 : Int32 → Int32 → Int32 → q_St → Option (Int32 × q_St)) (hi5 : ∀ (x1 : Int32) (x2 : Int32) (x3 : Int32) (u : q_St) (ls : Array Slot), lv_has ls 6 [(0, .ref (a 0)), (1, .int x1), (2, .int x2), (3, .int x3)] → ih5 x1 x2 x3 u = some (r0, σ0) → ∀ (H : Heap) (locs : List Loc), va_P D vwCl (am_W a cI u) H → va_S (am_A a) s.heap H locs → W p l e (headSpec (Cond.code yX11_ordered cX11_ordered 6 (some .int) :: q_T) ({ frames := 2, cells := 0, slots := 0, locals := 46 } : Room)).room s m ([.ref (a 0), .int o1, .int o2] : List Value).toArray below meth c H locs 0 0 (MQ below (q_Qi D vwCl (am_W a cI) (am_A a) r0 σ0) ([.ref (a 0), .int o1, .int o2] : List Value).toArray s 0 0 (am_A a)) (F0 m 5 ls [])), ∀ (x1 : Int32) (x2 : Int32) (x3 : Int32) (u : q_St) (ls : Array Slot), lv_has ls 6 [(0, .ref (a 0)), (1, .int x1), (2, .int x2), (3, .int x3)] → fX11_ordered_b110 N ih5 x1 x2 x3 u = some (r0, σ0) → ∀ (H : Heap) (locs : List Loc), va_P D vwCl (am_W a cI u) H → va_S (am_A a) s.heap H locs → W p l e (headSpec (Cond.code yX11_ordered cX11_ordered 6 (some .int) :: q_T) ({ frames := 2, cells := 0, slots := 0, locals := 46 } : Room)).room s m ([.ref (a 0), .int o1, .int o2] : List Value).toArray below meth c H locs 0 0 (MQ below (q_Qi D vwCl (am_W a cI) (am_A a) r0 σ0) ([.ref (a 0), .int o1, .int o2] : List Value).toArray s 0 0 (am_A a)) (F0 m 110 ls []) := by
    intro ih5 hi5 x1 x2 x3 u ls hl hF _ _ hP hS
    unfold fX11_ordered_b110 at hF
    refine sx_iinc (d := 1) (k := 3) (lv2 := [(0, .ref (a 0)), (1, .int x1), (2, .int x2)]) hx hb hF dX11_ordered_110 hl rfl (by decide) (by decide) rfl (fun v10 hF ls hl => ?_)
    refine lv_goto (tgt := 5) hx hb dX11_ordered_113 (by decide) ?_
    exact hi5 x1 x2 v10 u ls (lv_sub hl [1, 2, 3, 0] rfl) hF _ _ hP hS
  have hB93 : ∀ (ih5 : Int32 → Int32 → Int32 → q_St → Option (Int32 × q_St)) (hi5 : ∀ (x1 : Int32) (x2 : Int32) (x3 : Int32) (u : q_St) (ls : Array Slot), lv_has ls 6 [(0, .ref (a 0)), (1, .int x1), (2, .int x2), (3, .int x3)] → ih5 x1 x2 x3 u = some (r0, σ0) → ∀ (H : Heap) (locs : List Loc), va_P D vwCl (am_W a cI u) H → va_S (am_A a) s.heap H locs → W p l e (headSpec (Cond.code yX11_ordered cX11_ordered 6 (some .int) :: q_T) ({ frames := 2, cells := 0, slots := 0, locals := 46 } : Room)).room s m ([.ref (a 0), .int o1, .int o2] : List Value).toArray below meth c H locs 0 0 (MQ below (q_Qi D vwCl (am_W a cI) (am_A a) r0 σ0) ([.ref (a 0), .int o1, .int o2] : List Value).toArray s 0 0 (am_A a)) (F0 m 5 ls [])), ∀ (ih41 : Int32 → Int32 → Int32 → Int32 → Int32 → q_St → Option (Int32 × q_St)) (hi41 : ∀ (x1 : Int32) (x2 : Int32) (x3 : Int32) (x4 : Int32) (x5 : Int32) (u : q_St) (ls : Array Slot), lv_has ls 6 [(0, .ref (a 0)), (1, .int x1), (2, .int x2), (3, .int x3), (4, .int x4), (5, .int x5)] → ih41 x1 x2 x3 x4 x5 u = some (r0, σ0) → ∀ (H : Heap) (locs : List Loc), va_P D vwCl (am_W a cI u) H → va_S (am_A a) s.heap H locs → W p l e (headSpec (Cond.code yX11_ordered cX11_ordered 6 (some .int) :: q_T) ({ frames := 2, cells := 0, slots := 0, locals := 46 } : Room)).room s m ([.ref (a 0), .int o1, .int o2] : List Value).toArray below meth c H locs 0 0 (MQ below (q_Qi D vwCl (am_W a cI) (am_A a) r0 σ0) ([.ref (a 0), .int o1, .int o2] : List Value).toArray s 0 0 (am_A a)) (F0 m 41 ls [])), ∀ (x1 : Int32) (x2 : Int32) (x3 : Int32) (x5 : Int32) (y0 : Int32) (y1 : Int32) (u : q_St) (ls : Array Slot), lv_has ls 6 [(0, .ref (a 0)), (1, .int x1), (2, .int x2), (3, .int x3), (5, .int x5)] → fX11_ordered_b93 N ih5 ih41 x1 x2 x3 x5 y0 y1 u = some (r0, σ0) → ∀ (H : Heap) (locs : List Loc), va_P D vwCl (am_W a cI u) H → va_S (am_A a) s.heap H locs → W p l e (headSpec (Cond.code yX11_ordered cX11_ordered 6 (some .int) :: q_T) ({ frames := 2, cells := 0, slots := 0, locals := 46 } : Room)).room s m ([.ref (a 0), .int o1, .int o2] : List Value).toArray below meth c H locs 0 0 (MQ below (q_Qi D vwCl (am_W a cI) (am_A a) r0 σ0) ([.ref (a 0), .int o1, .int o2] : List Value).toArray s 0 0 (am_A a)) (F0 m 93 ls [.int y0, .int y1]) := by
    intro ih5 hi5 ih41 hi41 x1 x2 x3 x5 y0 y1 u ls hl hF _ _ hP hS
    unfold fX11_ordered_b93 at hF
    refine lv_iadd hx hb dX11_ordered_93 ?_
    refine sx_istore (lv2 := [(0, .ref (a 0)), (1, .int x1), (2, .int x2), (3, .int x3), (5, .int x5)]) hx hb hF dX11_ordered_94 hl (by decide) rfl (fun v12 hF ls hl => ?_)
    refine sx_iinc (d := 1) (k := 5) (lv2 := [(4, .int v12), (0, .ref (a 0)), (1, .int x1), (2, .int x2), (3, .int x3)]) hx hb hF dX11_ordered_96 hl rfl (by decide) (by decide) rfl (fun v13 hF ls hl => ?_)
    refine lv_goto (tgt := 41) hx hb dX11_ordered_99 (by decide) ?_
    exact hi41 x1 x2 x3 v12 v13 u ls (lv_sub hl [2, 3, 4, 5, 1, 0] rfl) hF _ _ hP hS
  have hB92 : ∀ (ih5 : Int32 → Int32 → Int32 → q_St → Option (Int32 × q_St)) (hi5 : ∀ (x1 : Int32) (x2 : Int32) (x3 : Int32) (u : q_St) (ls : Array Slot), lv_has ls 6 [(0, .ref (a 0)), (1, .int x1), (2, .int x2), (3, .int x3)] → ih5 x1 x2 x3 u = some (r0, σ0) → ∀ (H : Heap) (locs : List Loc), va_P D vwCl (am_W a cI u) H → va_S (am_A a) s.heap H locs → W p l e (headSpec (Cond.code yX11_ordered cX11_ordered 6 (some .int) :: q_T) ({ frames := 2, cells := 0, slots := 0, locals := 46 } : Room)).room s m ([.ref (a 0), .int o1, .int o2] : List Value).toArray below meth c H locs 0 0 (MQ below (q_Qi D vwCl (am_W a cI) (am_A a) r0 σ0) ([.ref (a 0), .int o1, .int o2] : List Value).toArray s 0 0 (am_A a)) (F0 m 5 ls [])), ∀ (ih41 : Int32 → Int32 → Int32 → Int32 → Int32 → q_St → Option (Int32 × q_St)) (hi41 : ∀ (x1 : Int32) (x2 : Int32) (x3 : Int32) (x4 : Int32) (x5 : Int32) (u : q_St) (ls : Array Slot), lv_has ls 6 [(0, .ref (a 0)), (1, .int x1), (2, .int x2), (3, .int x3), (4, .int x4), (5, .int x5)] → ih41 x1 x2 x3 x4 x5 u = some (r0, σ0) → ∀ (H : Heap) (locs : List Loc), va_P D vwCl (am_W a cI u) H → va_S (am_A a) s.heap H locs → W p l e (headSpec (Cond.code yX11_ordered cX11_ordered 6 (some .int) :: q_T) ({ frames := 2, cells := 0, slots := 0, locals := 46 } : Room)).room s m ([.ref (a 0), .int o1, .int o2] : List Value).toArray below meth c H locs 0 0 (MQ below (q_Qi D vwCl (am_W a cI) (am_A a) r0 σ0) ([.ref (a 0), .int o1, .int o2] : List Value).toArray s 0 0 (am_A a)) (F0 m 41 ls [])), ∀ (x1 : Int32) (x2 : Int32) (x3 : Int32) (x5 : Int32) (y0 : Int32) (u : q_St) (ls : Array Slot), lv_has ls 6 [(0, .ref (a 0)), (1, .int x1), (2, .int x2), (3, .int x3), (5, .int x5)] → fX11_ordered_b92 N ih5 ih41 x1 x2 x3 x5 y0 u = some (r0, σ0) → ∀ (H : Heap) (locs : List Loc), va_P D vwCl (am_W a cI u) H → va_S (am_A a) s.heap H locs → W p l e (headSpec (Cond.code yX11_ordered cX11_ordered 6 (some .int) :: q_T) ({ frames := 2, cells := 0, slots := 0, locals := 46 } : Room)).room s m ([.ref (a 0), .int o1, .int o2] : List Value).toArray below meth c H locs 0 0 (MQ below (q_Qi D vwCl (am_W a cI) (am_A a) r0 σ0) ([.ref (a 0), .int o1, .int o2] : List Value).toArray s 0 0 (am_A a)) (F0 m 92 ls [.int y0]) := by
    intro ih5 hi5 ih41 hi41 x1 x2 x3 x5 y0 u ls hl hF _ _ hP hS
    unfold fX11_ordered_b92 at hF
    refine lv_iconst (v := 0) hx hb dX11_ordered_92 (by decide) ?_
    exact hB93 ih5 hi5 ih41 hi41 x1 x2 x3 x5 0 y0 u ls (lv_sub hl [0, 1, 2, 3, 4] rfl) hF _ _ hP hS
  have hB41 : ∀ (ih5 : Int32 → Int32 → Int32 → q_St → Option (Int32 × q_St)) (hi5 : ∀ (x1 : Int32) (x2 : Int32) (x3 : Int32) (u : q_St) (ls : Array Slot), lv_has ls 6 [(0, .ref (a 0)), (1, .int x1), (2, .int x2), (3, .int x3)] → ih5 x1 x2 x3 u = some (r0, σ0) → ∀ (H : Heap) (locs : List Loc), va_P D vwCl (am_W a cI u) H → va_S (am_A a) s.heap H locs → W p l e (headSpec (Cond.code yX11_ordered cX11_ordered 6 (some .int) :: q_T) ({ frames := 2, cells := 0, slots := 0, locals := 46 } : Room)).room s m ([.ref (a 0), .int o1, .int o2] : List Value).toArray below meth c H locs 0 0 (MQ below (q_Qi D vwCl (am_W a cI) (am_A a) r0 σ0) ([.ref (a 0), .int o1, .int o2] : List Value).toArray s 0 0 (am_A a)) (F0 m 5 ls [])), ∀ (n : Nat) (x1 : Int32) (x2 : Int32) (x3 : Int32) (x4 : Int32) (x5 : Int32) (u : q_St) (ls : Array Slot), lv_has ls 6 [(0, .ref (a 0)), (1, .int x1), (2, .int x2), (3, .int x3), (4, .int x4), (5, .int x5)] → q_lp (fX11_ordered_b41 N ih5) (fun _ _ _ _ _ _ => none) n x1 x2 x3 x4 x5 u = some (r0, σ0) → ∀ (H : Heap) (locs : List Loc), va_P D vwCl (am_W a cI u) H → va_S (am_A a) s.heap H locs → W p l e (headSpec (Cond.code yX11_ordered cX11_ordered 6 (some .int) :: q_T) ({ frames := 2, cells := 0, slots := 0, locals := 46 } : Room)).room s m ([.ref (a 0), .int o1, .int o2] : List Value).toArray below meth c H locs 0 0 (MQ below (q_Qi D vwCl (am_W a cI) (am_A a) r0 σ0) ([.ref (a 0), .int o1, .int o2] : List Value).toArray s 0 0 (am_A a)) (F0 m 41 ls []) := by
    intro ih5 hi5 n
    induction n with
    | zero => intro x1 x2 x3 x4 x5 u ls hl hF; exact absurd (show (none : Option (Int32 × q_St)) = some _ from hF) (fun h => nomatch h)
    | succ n hi41 =>
      intro x1 x2 x3 x4 x5 u ls hl hF _ _ hP hS
      obtain ⟨ih41, hih⟩ : ∃ q, q = q_lp (fX11_ordered_b41 N ih5) (fun _ _ _ _ _ _ => none) n := ⟨_, rfl⟩
      rw [← hih] at hi41
      have hF : fX11_ordered_b41 N ih5 (q_lp (fX11_ordered_b41 N ih5) (fun _ _ _ _ _ _ => none) n) x1 x2 x3 x4 x5 u = some (r0, σ0) := hF
      rw [← hih] at hF
      clear hih
      unfold fX11_ordered_b41 at hF
      refine lv_iload hx hb dX11_ordered_41 (lv_at hl 5 rfl) ?_
      refine lv_bipush (v := 48) hx hb dX11_ordered_43 (by decide) ?_
      refine lv_iload_n hx hb dX11_ordered_45 rfl (lv_at hl 1 rfl) ?_
      refine lv_imul hx hb dX11_ordered_46 ?_
      refine lv_aload_n hx hb dX11_ordered_47 rfl (lv_at hl 0 rfl) ?_
      refine lv_iload_n hx hb dX11_ordered_48 rfl (lv_at hl 1 rfl) ?_
      obtain ⟨r7, u8, hc9, hF⟩ := q_bnd_some hF
      refine sx_ci (Wd := (am_W a cI)) (σ1 := u8) (q_runV (Wd := (am_W a cI)) (σ := u) (q0 := 0) (ci := 11) (T := TX11) (N := 72) (As := [.int x1]) (rest := [.int (48 * x1), .int x5]) hx hb hml hown hts hK hP (kt_X11_slots hD hc9) cw_X11_315 rfl rfl ⟨Nat.le_of_ble_eq_true rfl, Nat.le_of_ble_eq_true rfl⟩ rfl rfl rfl hl.1 rfl (Nat.le_of_ble_eq_true rfl) dX11_ordered_49) hS (fun H locs hP hS => ?_)
      refine lv_iadd hx hb dX11_ordered_52 ?_
      refine sx_icmp_ge (tgt := 102) hx hb hF dX11_ordered_53 (by decide) (fun hF => ?_) (fun hF => ?_)
      · refine lv_iload hx hb dX11_ordered_102 (lv_at hl 4 rfl) ?_
        refine lv_iload_n hx hb dX11_ordered_104 rfl (lv_at hl 2 rfl) ?_
        refine sx_icmp_ne (tgt := 110) hx hb hF dX11_ordered_105 (by decide) (fun hF => ?_) (fun hF => ?_)
        · exact hB110 ih5 hi5 x1 x2 x3 u8 ls (lv_sub hl [0, 1, 2, 3] rfl) hF _ _ hP hS
        · refine lv_iload_n hx hb dX11_ordered_108 rfl (lv_at hl 3 rfl) ?_
          exact sx_reti (Wd := (am_W a cI)) (σ := u8) hx hb hr hF hP hS hlocks dX11_ordered_109
      · refine lv_iload hx hb dX11_ordered_56 (lv_at hl 4 rfl) ?_
        refine lv_aload_n hx hb dX11_ordered_58 rfl (lv_at hl 0 rfl) ?_
        refine gm_m_slotNode hx hb hts hown hK hP fl_X11_68 dX11_ordered_59 ?_
        refine lv_iload hx hb dX11_ordered_62 (lv_at hl 5 rfl) ?_
        refine lm_m_slotNode hx hb hK hP hF dX11_ordered_64 (fun v11 hF => ?_)
        refine lv_iconst (v := (-1)) hx hb dX11_ordered_65 (by decide) ?_
        refine sx_icmp_eq (tgt := 92) hx hb hF dX11_ordered_66 (by decide) (fun hF => ?_) (fun hF => ?_)
        · exact hB92 ih5 hi5 ih41 hi41 x1 x2 x3 x5 x4 u8 ls (lv_sub hl [0, 1, 2, 3, 5] rfl) hF _ _ hP hS
        · refine lv_aload_n hx hb dX11_ordered_69 rfl (lv_at hl 0 rfl) ?_
          refine gm_m_slotName hx hb hts hown hK hP fl_X11_71 dX11_ordered_70 ?_
          refine lv_iload hx hb dX11_ordered_73 (lv_at hl 5 rfl) ?_
          refine lm_m_slotName hx hb hK hP hF dX11_ordered_75 (fun v14 hF => ?_)
          refine lv_aload_n hx hb dX11_ordered_76 rfl (lv_at hl 0 rfl) ?_
          refine gm_m_slotName hx hb hts hown hK hP fl_X11_71 dX11_ordered_77 ?_
          refine lv_iload_n hx hb dX11_ordered_80 rfl (lv_at hl 3 rfl) ?_
          refine lm_m_slotName hx hb hK hP hF dX11_ordered_81 (fun v15 hF => ?_)
          obtain ⟨r16, u17, hc18, hF⟩ := q_bnd_some hF
          refine sx_ci (Wd := (am_W a cI)) (σ1 := u17) (q_runS (Wd := (am_W a cI)) (σ := u8) (As := [.long v14, .long v15]) (rest := [.int x4]) hx hb hml hown hts hK hP (kt_X11_isAhead hD hc18) cw_X11_458 rfl rfl ⟨Nat.le_of_ble_eq_true rfl, Nat.le_of_ble_eq_true rfl⟩ rfl hl.1 rfl (Nat.le_of_ble_eq_true rfl) dX11_ordered_82) hS (fun H locs hP hS => ?_)
          refine sx_if_eq (tgt := 92) hx hb hF dX11_ordered_85 (by decide) (fun hF => ?_) (fun hF => ?_)
          · exact hB92 ih5 hi5 ih41 hi41 x1 x2 x3 x5 x4 u17 ls (lv_sub hl [0, 1, 2, 3, 5] rfl) hF _ _ hP hS
          · refine lv_iconst (v := 1) hx hb dX11_ordered_88 (by decide) ?_
            refine lv_goto (tgt := 93) hx hb dX11_ordered_89 (by decide) ?_
            exact hB93 ih5 hi5 ih41 hi41 x1 x2 x3 x5 1 x4 u17 ls (lv_sub hl [0, 1, 2, 3, 5] rfl) hF _ _ hP hS
  have hB5 : ∀ (n : Nat) (x1 : Int32) (x2 : Int32) (x3 : Int32) (u : q_St) (ls : Array Slot), lv_has ls 6 [(0, .ref (a 0)), (1, .int x1), (2, .int x2), (3, .int x3)] → q_lp (fX11_ordered_b5 N) (fun _ _ _ _ => none) n x1 x2 x3 u = some (r0, σ0) → ∀ (H : Heap) (locs : List Loc), va_P D vwCl (am_W a cI u) H → va_S (am_A a) s.heap H locs → W p l e (headSpec (Cond.code yX11_ordered cX11_ordered 6 (some .int) :: q_T) ({ frames := 2, cells := 0, slots := 0, locals := 46 } : Room)).room s m ([.ref (a 0), .int o1, .int o2] : List Value).toArray below meth c H locs 0 0 (MQ below (q_Qi D vwCl (am_W a cI) (am_A a) r0 σ0) ([.ref (a 0), .int o1, .int o2] : List Value).toArray s 0 0 (am_A a)) (F0 m 5 ls []) := by
    intro n
    induction n with
    | zero => intro x1 x2 x3 u ls hl hF; exact absurd (show (none : Option (Int32 × q_St)) = some _ from hF) (fun h => nomatch h)
    | succ n hi5 =>
      intro x1 x2 x3 u ls hl hF _ _ hP hS
      obtain ⟨ih5, hih⟩ : ∃ q, q = q_lp (fX11_ordered_b5 N) (fun _ _ _ _ => none) n := ⟨_, rfl⟩
      rw [← hih] at hi5
      have hF : fX11_ordered_b5 N (q_lp (fX11_ordered_b5 N) (fun _ _ _ _ => none) n) x1 x2 x3 u = some (r0, σ0) := hF
      rw [← hih] at hF
      clear hih
      unfold fX11_ordered_b5 at hF
      refine lv_iload_n hx hb dX11_ordered_5 rfl (lv_at hl 3 rfl) ?_
      refine lv_bipush (v := 48) hx hb dX11_ordered_6 (by decide) ?_
      refine lv_iload_n hx hb dX11_ordered_8 rfl (lv_at hl 1 rfl) ?_
      refine lv_imul hx hb dX11_ordered_9 ?_
      refine lv_aload_n hx hb dX11_ordered_10 rfl (lv_at hl 0 rfl) ?_
      refine lv_iload_n hx hb dX11_ordered_11 rfl (lv_at hl 1 rfl) ?_
      obtain ⟨r2, u3, hc4, hF⟩ := q_bnd_some hF
      refine sx_ci (Wd := (am_W a cI)) (σ1 := u3) (q_runV (Wd := (am_W a cI)) (σ := u) (q0 := 0) (ci := 11) (T := TX11) (N := 72) (As := [.int x1]) (rest := [.int (48 * x1), .int x3]) hx hb hml hown hts hK hP (kt_X11_slots hD hc4) cw_X11_315 rfl rfl ⟨Nat.le_of_ble_eq_true rfl, Nat.le_of_ble_eq_true rfl⟩ rfl rfl rfl hl.1 rfl (Nat.le_of_ble_eq_true rfl) dX11_ordered_12) hS (fun H locs hP hS => ?_)
      refine lv_iadd hx hb dX11_ordered_15 ?_
      refine sx_icmp_ge (tgt := 116) hx hb hF dX11_ordered_16 (by decide) (fun hF => ?_) (fun hF => ?_)
      · refine lv_iconst (v := (-1)) hx hb dX11_ordered_116 (by decide) ?_
        exact sx_reti (Wd := (am_W a cI)) (σ := u3) hx hb hr hF hP hS hlocks dX11_ordered_117
      · refine lv_aload_n hx hb dX11_ordered_19 rfl (lv_at hl 0 rfl) ?_
        refine gm_m_slotNode hx hb hts hown hK hP fl_X11_68 dX11_ordered_20 ?_
        refine lv_iload_n hx hb dX11_ordered_23 rfl (lv_at hl 3 rfl) ?_
        refine lm_m_slotNode hx hb hK hP hF dX11_ordered_24 (fun v5 hF => ?_)
        refine lv_iconst (v := (-1)) hx hb dX11_ordered_25 (by decide) ?_
        refine sx_icmp_ne (tgt := 32) hx hb hF dX11_ordered_26 (by decide) (fun hF => ?_) (fun hF => ?_)
        · refine lv_iconst (v := 0) hx hb dX11_ordered_32 (by decide) ?_
          refine lv_istore (lv' := [(4, .int 0), (0, .ref (a 0)), (1, .int x1), (2, .int x2), (3, .int x3)]) hx hb dX11_ordered_33 hl (by decide) rfl (fun ls hl => ?_)
          refine lv_bipush (v := 48) hx hb dX11_ordered_35 (by decide) ?_
          refine lv_iload_n hx hb dX11_ordered_37 rfl (lv_at hl 2 rfl) ?_
          refine lv_imul hx hb dX11_ordered_38 ?_
          refine sx_istore (lv2 := [(4, .int 0), (0, .ref (a 0)), (1, .int x1), (2, .int x2), (3, .int x3)]) hx hb hF dX11_ordered_39 hl (by decide) rfl (fun v6 hF ls hl => ?_)
          exact hB41 ih5 hi5 N x1 x2 x3 0 v6 u3 ls (lv_sub hl [2, 3, 4, 5, 1, 0] rfl) hF _ _ hP hS
        · refine lv_goto (tgt := 110) hx hb dX11_ordered_29 (by decide) ?_
          exact hB110 ih5 hi5 x1 x2 x3 u3 ls (lv_sub hl [0, 1, 2, 3] rfl) hF _ _ hP hS
  unfold fX11_ordered at hF
  refine lv_bipush (v := 48) hx hb dX11_ordered_0 (by decide) ?_
  refine lv_iload_n hx hb dX11_ordered_2 rfl (lv_at hl 1 rfl) ?_
  refine lv_imul hx hb dX11_ordered_3 ?_
  refine sx_istore_n (lv2 := [(0, .ref (a 0)), (1, .int o1), (2, .int o2)]) hx hb hF dX11_ordered_4 rfl hl (by decide) rfl (fun v1 hF ls hl => ?_)
  exact hB5 N o1 o2 v1 u ls (lv_sub hl [1, 2, 3, 0] rfl) hF _ _ hP hS
set_option maxHeartbeats 4000000 in
set_option maxRecDepth 100000 in
theorem kt_X11_entry {N : Nat} {l : Launch} {D : va_G} {a : Nat → Nat} {cI : Nat → ClassId} (hD : ∀ σ, va_D (am_A a) (am_W a cI σ)) {o1 : Int32} {o2 : Int32} {u σ0 : q_St} {r0 : Int32} (hF : fX11_entry N o1 o2 u = some (r0, σ0)) : Met l yX11_entry (Cond.code yX11_entry cX11_entry 4 (some .int) :: q_T) ({ frames := 3, cells := 0, slots := 0, locals := 71 } : Room) (q_P D vwCl (am_T cI) (am_W a cI) [.ref (a 0), .int o1, .int o2] u) (q_Qi D vwCl (am_W a cI) (am_A a) r0 σ0) 0 0 (am_A a) := by
  refine Met.ofW (cc := cX11_entry) (maxL := 4) (ret := (some .int)) (by decide) rfl ?_
  intro p e s m args below meth c s₁ B hml hv
  obtain ⟨rfl, hP, hK⟩ := hv
  have hx := B.exec
  have hb := B.bytes
  have hr := B.returns
  have hts := q_ts (atoms_spec (ws := Cond.code yX11_entry cX11_entry 4 (some .int) :: q_T) B.pre)
  have hown : s.vm.findClass RX11 = some m.cls := findClass_of_methodNamed B.named
  have hlocks := B.notSynchronized
  have hS : va_S (am_A a) s.heap s.heap [] := va_S.rf
  have hl := lv_entry ([.ref (a 0), .int o1, .int o2]) (n := 4) (Nat.le_of_ble_eq_true rfl)
  rw [lg_entry_eq]
  generalize (lg_sl ([.ref (a 0), .int o1, .int o2]) ++ List.replicate (4 - (lg_sl ([.ref (a 0), .int o1, .int o2])).length) Slot.unset).toArray = ls at hl ⊢
  have hl : lv_has ls 4 [(0, .ref (a 0)), (1, .int o1), (2, .int o2)] := hl
  unfold fX11_entry at hF
  refine lv_aload_n hx hb dX11_entry_0 rfl (lv_at hl 0 rfl) ?_
  refine gm_m_isOn hx hb hts hown hK hP fl_X11_7 dX11_entry_1 ?_
  refine sx_if_ne (tgt := 10) hx hb hF dX11_entry_4 (by decide) (fun hF => ?_) (fun hF => ?_)
  · refine lv_aload_n hx hb dX11_entry_10 rfl (lv_at hl 0 rfl) ?_
    refine lv_iload_n hx hb dX11_entry_11 rfl (lv_at hl 1 rfl) ?_
    obtain ⟨r1, u2, hc3, hF⟩ := q_bnd_some hF
    refine sx_ci (Wd := (am_W a cI)) (σ1 := u2) (q_runV (Wd := (am_W a cI)) (σ := u) (q0 := 0) (ci := 11) (T := TX11) (N := 72) (As := [.int o1]) (rest := []) hx hb hml hown hts hK hP (kt_X11_isDirectory hD hc3) cw_X11_339 rfl rfl ⟨Nat.le_of_ble_eq_true rfl, Nat.le_of_ble_eq_true rfl⟩ rfl rfl rfl hl.1 rfl (Nat.le_of_ble_eq_true rfl) dX11_entry_12) hS (fun H locs hP hS => ?_)
    refine sx_if_ne (tgt := 21) hx hb hF dX11_entry_15 (by decide) (fun hF => ?_) (fun hF => ?_)
    · refine lv_aload_n hx hb dX11_entry_21 rfl (lv_at hl 0 rfl) ?_
      refine lv_iload_n hx hb dX11_entry_22 rfl (lv_at hl 1 rfl) ?_
      refine lv_iconst (v := 4) hx hb dX11_entry_23 (by decide) ?_
      obtain ⟨r4, u5, hc6, hF⟩ := q_bnd_some hF
      refine sx_ci (Wd := (am_W a cI)) (σ1 := u5) (q_runV (Wd := (am_W a cI)) (σ := u2) (q0 := 0) (ci := 11) (T := TX11) (N := 72) (As := [.int o1, .int 4]) (rest := []) hx hb hml hown hts hK hP (kt_X11_may hD hc6) cw_X11_346 rfl rfl ⟨Nat.le_of_ble_eq_true rfl, Nat.le_of_ble_eq_true rfl⟩ rfl rfl rfl hl.1 rfl (Nat.le_of_ble_eq_true rfl) dX11_entry_24) hS (fun H locs hP hS => ?_)
      refine sx_if_ne (tgt := 33) hx hb hF dX11_entry_27 (by decide) (fun hF => ?_) (fun hF => ?_)
      · refine lv_aload_n hx hb dX11_entry_33 rfl (lv_at hl 0 rfl) ?_
        refine lv_iload_n hx hb dX11_entry_34 rfl (lv_at hl 1 rfl) ?_
        refine lv_iload_n hx hb dX11_entry_35 rfl (lv_at hl 2 rfl) ?_
        obtain ⟨r7, u8, hc9, hF⟩ := q_bnd_some hF
        refine sx_ci (Wd := (am_W a cI)) (σ1 := u8) (q_runV (Wd := (am_W a cI)) (σ := u5) (q0 := 0) (ci := 11) (T := TX11) (N := 72) (As := [.int o1, .int o2]) (rest := []) hx hb hml hown hts hK hP (kt_X11_ordered hD hc9) cw_X11_462 rfl rfl ⟨Nat.le_of_ble_eq_true rfl, Nat.le_of_ble_eq_true rfl⟩ rfl rfl rfl hl.1 rfl (Nat.le_of_ble_eq_true rfl) dX11_entry_36) hS (fun H locs hP hS => ?_)
        refine lv_istore_n (lv' := [(3, .int r7), (0, .ref (a 0)), (1, .int o1), (2, .int o2)]) hx hb dX11_entry_39 rfl hl (by decide) rfl (fun ls hl => ?_)
        refine lv_iload_n hx hb dX11_entry_40 rfl (lv_at hl 0 rfl) ?_
        refine lv_iconst (v := (-1)) hx hb dX11_entry_41 (by decide) ?_
        refine sx_icmp_ne (tgt := 49) hx hb hF dX11_entry_42 (by decide) (fun hF => ?_) (fun hF => ?_)
        · refine lv_aload_n hx hb dX11_entry_49 rfl (lv_at hl 1 rfl) ?_
          refine gm_m_slotNode hx hb hts hown hK hP fl_X11_68 dX11_entry_50 ?_
          refine lv_iload_n hx hb dX11_entry_53 rfl (lv_at hl 0 rfl) ?_
          refine lm_m_slotNode hx hb hK hP hF dX11_entry_54 (fun v10 hF => ?_)
          exact sx_reti (Wd := (am_W a cI)) (σ := u8) hx hb hr hF hP hS hlocks dX11_entry_55
        · refine lv_iconst (v := (-1)) hx hb dX11_entry_45 (by decide) ?_
          refine lv_goto (tgt := 55) hx hb dX11_entry_46 (by decide) ?_
          exact sx_reti (Wd := (am_W a cI)) (σ := u8) hx hb hr hF hP hS hlocks dX11_entry_55
      · refine lv_bipush (v := (-20)) hx hb dX11_entry_30 (by decide) ?_
        exact sx_reti (Wd := (am_W a cI)) (σ := u5) hx hb hr hF hP hS hlocks dX11_entry_32
    · refine lv_bipush (v := (-10)) hx hb dX11_entry_18 (by decide) ?_
      exact sx_reti (Wd := (am_W a cI)) (σ := u2) hx hb hr hF hP hS hlocks dX11_entry_20
  · refine lv_bipush (v := (-99)) hx hb dX11_entry_7 (by decide) ?_
    exact sx_reti (Wd := (am_W a cI)) (σ := u) hx hb hr hF hP hS hlocks dX11_entry_9
set_option maxHeartbeats 4000000 in
set_option maxRecDepth 100000 in
theorem kt_X11_name {N : Nat} {l : Launch} {D : va_G} {a : Nat → Nat} {cI : Nat → ClassId} (hD : ∀ σ, va_D (am_A a) (am_W a cI σ)) {o1 : Int32} {o2 : Int32} {u σ0 : q_St} {r0 : Int64} (hF : fX11_name N o1 o2 u = some (r0, σ0)) : Met l yX11_name (Cond.code yX11_name cX11_name 4 (some .long) :: q_T) ({ frames := 3, cells := 0, slots := 0, locals := 71 } : Room) (q_P D vwCl (am_T cI) (am_W a cI) [.ref (a 0), .int o1, .int o2] u) (q_Ql D vwCl (am_W a cI) (am_A a) r0 σ0) 0 0 (am_A a) := by
  refine Met.ofW (cc := cX11_name) (maxL := 4) (ret := (some .long)) (by decide) rfl ?_
  intro p e s m args below meth c s₁ B hml hv
  obtain ⟨rfl, hP, hK⟩ := hv
  have hx := B.exec
  have hb := B.bytes
  have hr := B.returns
  have hts := q_ts (atoms_spec (ws := Cond.code yX11_name cX11_name 4 (some .long) :: q_T) B.pre)
  have hown : s.vm.findClass RX11 = some m.cls := findClass_of_methodNamed B.named
  have hlocks := B.notSynchronized
  have hS : va_S (am_A a) s.heap s.heap [] := va_S.rf
  have hl := lv_entry ([.ref (a 0), .int o1, .int o2]) (n := 4) (Nat.le_of_ble_eq_true rfl)
  rw [lg_entry_eq]
  generalize (lg_sl ([.ref (a 0), .int o1, .int o2]) ++ List.replicate (4 - (lg_sl ([.ref (a 0), .int o1, .int o2])).length) Slot.unset).toArray = ls at hl ⊢
  have hl : lv_has ls 4 [(0, .ref (a 0)), (1, .int o1), (2, .int o2)] := hl
  unfold fX11_name at hF
  refine lv_aload_n hx hb dX11_name_0 rfl (lv_at hl 0 rfl) ?_
  refine gm_m_isOn hx hb hts hown hK hP fl_X11_7 dX11_name_1 ?_
  refine sx_if_ne (tgt := 11) hx hb hF dX11_name_4 (by decide) (fun hF => ?_) (fun hF => ?_)
  · refine lv_aload_n hx hb dX11_name_11 rfl (lv_at hl 0 rfl) ?_
    refine lv_iload_n hx hb dX11_name_12 rfl (lv_at hl 1 rfl) ?_
    obtain ⟨r1, u2, hc3, hF⟩ := q_bnd_some hF
    refine sx_ci (Wd := (am_W a cI)) (σ1 := u2) (q_runV (Wd := (am_W a cI)) (σ := u) (q0 := 0) (ci := 11) (T := TX11) (N := 72) (As := [.int o1]) (rest := []) hx hb hml hown hts hK hP (kt_X11_isDirectory hD hc3) cw_X11_339 rfl rfl ⟨Nat.le_of_ble_eq_true rfl, Nat.le_of_ble_eq_true rfl⟩ rfl rfl rfl hl.1 rfl (Nat.le_of_ble_eq_true rfl) dX11_name_13) hS (fun H locs hP hS => ?_)
    refine sx_if_ne (tgt := 23) hx hb hF dX11_name_16 (by decide) (fun hF => ?_) (fun hF => ?_)
    · refine lv_aload_n hx hb dX11_name_23 rfl (lv_at hl 0 rfl) ?_
      refine lv_iload_n hx hb dX11_name_24 rfl (lv_at hl 1 rfl) ?_
      refine lv_iconst (v := 4) hx hb dX11_name_25 (by decide) ?_
      obtain ⟨r4, u5, hc6, hF⟩ := q_bnd_some hF
      refine sx_ci (Wd := (am_W a cI)) (σ1 := u5) (q_runV (Wd := (am_W a cI)) (σ := u2) (q0 := 0) (ci := 11) (T := TX11) (N := 72) (As := [.int o1, .int 4]) (rest := []) hx hb hml hown hts hK hP (kt_X11_may hD hc6) cw_X11_346 rfl rfl ⟨Nat.le_of_ble_eq_true rfl, Nat.le_of_ble_eq_true rfl⟩ rfl rfl rfl hl.1 rfl (Nat.le_of_ble_eq_true rfl) dX11_name_26) hS (fun H locs hP hS => ?_)
      refine sx_if_ne (tgt := 36) hx hb hF dX11_name_29 (by decide) (fun hF => ?_) (fun hF => ?_)
      · refine lv_aload_n hx hb dX11_name_36 rfl (lv_at hl 0 rfl) ?_
        refine lv_iload_n hx hb dX11_name_37 rfl (lv_at hl 1 rfl) ?_
        refine lv_iload_n hx hb dX11_name_38 rfl (lv_at hl 2 rfl) ?_
        obtain ⟨r7, u8, hc9, hF⟩ := q_bnd_some hF
        refine sx_ci (Wd := (am_W a cI)) (σ1 := u8) (q_runV (Wd := (am_W a cI)) (σ := u5) (q0 := 0) (ci := 11) (T := TX11) (N := 72) (As := [.int o1, .int o2]) (rest := []) hx hb hml hown hts hK hP (kt_X11_ordered hD hc9) cw_X11_462 rfl rfl ⟨Nat.le_of_ble_eq_true rfl, Nat.le_of_ble_eq_true rfl⟩ rfl rfl rfl hl.1 rfl (Nat.le_of_ble_eq_true rfl) dX11_name_39) hS (fun H locs hP hS => ?_)
        refine lv_istore_n (lv' := [(3, .int r7), (0, .ref (a 0)), (1, .int o1), (2, .int o2)]) hx hb dX11_name_42 rfl hl (by decide) rfl (fun ls hl => ?_)
        refine lv_iload_n hx hb dX11_name_43 rfl (lv_at hl 0 rfl) ?_
        refine lv_iconst (v := (-1)) hx hb dX11_name_44 (by decide) ?_
        refine sx_icmp_ne (tgt := 54) hx hb hF dX11_name_45 (by decide) (fun hF => ?_) (fun hF => ?_)
        · refine lv_aload_n hx hb dX11_name_54 rfl (lv_at hl 1 rfl) ?_
          refine gm_m_slotName hx hb hts hown hK hP fl_X11_71 dX11_name_55 ?_
          refine lv_iload_n hx hb dX11_name_58 rfl (lv_at hl 0 rfl) ?_
          refine lm_m_slotName hx hb hK hP hF dX11_name_59 (fun v10 hF => ?_)
          exact sx_retl (Wd := (am_W a cI)) (σ := u8) hx hb hr hF hP hS hlocks dX11_name_60
        · refine lv_ldc2 (v := (-1)) hx hb hown (hts _ kc_X11_471) dX11_name_48 ?_
          refine lv_goto (tgt := 60) hx hb dX11_name_51 (by decide) ?_
          exact sx_retl (Wd := (am_W a cI)) (σ := u8) hx hb hr hF hP hS hlocks dX11_name_60
      · refine lv_ldc2 (v := (-20)) hx hb hown (hts _ kc_X11_469) dX11_name_32 ?_
        exact sx_retl (Wd := (am_W a cI)) (σ := u5) hx hb hr hF hP hS hlocks dX11_name_35
    · refine lv_ldc2 (v := (-10)) hx hb hown (hts _ kc_X11_467) dX11_name_19 ?_
      exact sx_retl (Wd := (am_W a cI)) (σ := u2) hx hb hr hF hP hS hlocks dX11_name_22
  · refine lv_ldc2 (v := (-99)) hx hb hown (hts _ kc_X11_465) dX11_name_7 ?_
    exact sx_retl (Wd := (am_W a cI)) (σ := u) hx hb hr hF hP hS hlocks dX11_name_10
set_option maxHeartbeats 4000000 in
set_option maxRecDepth 100000 in
theorem kt_X11_kind {N : Nat} {l : Launch} {D : va_G} {a : Nat → Nat} {cI : Nat → ClassId} (hD : ∀ σ, va_D (am_A a) (am_W a cI σ)) {o1 : Int32} {u σ0 : q_St} {r0 : Int32} (hF : fX11_kind N o1 u = some (r0, σ0)) : Met l yX11_kind (Cond.code yX11_kind cX11_kind 2 (some .int) :: q_T) ({ frames := 0, cells := 0, slots := 0, locals := 0 } : Room) (q_P D vwCl (am_T cI) (am_W a cI) [.ref (a 0), .int o1] u) (q_Qi D vwCl (am_W a cI) (am_A a) r0 σ0) 0 0 (am_A a) := by
  refine Met.ofW (cc := cX11_kind) (maxL := 2) (ret := (some .int)) (by decide) rfl ?_
  intro p e s m args below meth c s₁ B hml hv
  obtain ⟨rfl, hP, hK⟩ := hv
  have hx := B.exec
  have hb := B.bytes
  have hr := B.returns
  have hts := q_ts (atoms_spec (ws := Cond.code yX11_kind cX11_kind 2 (some .int) :: q_T) B.pre)
  have hown : s.vm.findClass RX11 = some m.cls := findClass_of_methodNamed B.named
  have hlocks := B.notSynchronized
  have hS : va_S (am_A a) s.heap s.heap [] := va_S.rf
  have hl := lv_entry ([.ref (a 0), .int o1]) (n := 2) (Nat.le_of_ble_eq_true rfl)
  rw [lg_entry_eq]
  generalize (lg_sl ([.ref (a 0), .int o1]) ++ List.replicate (2 - (lg_sl ([.ref (a 0), .int o1])).length) Slot.unset).toArray = ls at hl ⊢
  have hl : lv_has ls 2 [(0, .ref (a 0)), (1, .int o1)] := hl
  have hB20 : ∀ (u : q_St) (ls : Array Slot), lv_has ls 2 [] → fX11_kind_b20 N u = some (r0, σ0) → ∀ (H : Heap) (locs : List Loc), va_P D vwCl (am_W a cI u) H → va_S (am_A a) s.heap H locs → W p l e (headSpec (Cond.code yX11_kind cX11_kind 2 (some .int) :: q_T) ({ frames := 0, cells := 0, slots := 0, locals := 0 } : Room)).room s m ([.ref (a 0), .int o1] : List Value).toArray below meth c H locs 0 0 (MQ below (q_Qi D vwCl (am_W a cI) (am_A a) r0 σ0) ([.ref (a 0), .int o1] : List Value).toArray s 0 0 (am_A a)) (F0 m 20 ls []) := by
    intro u ls hl hF _ _ hP hS
    unfold fX11_kind_b20 at hF
    refine lv_bipush (v := (-10)) hx hb dX11_kind_20 (by decide) ?_
    refine lv_goto (tgt := 31) hx hb dX11_kind_22 (by decide) ?_
    exact sx_reti (Wd := (am_W a cI)) (σ := u) hx hb hr hF hP hS hlocks dX11_kind_31
  unfold fX11_kind at hF
  refine lv_aload_n hx hb dX11_kind_0 rfl (lv_at hl 0 rfl) ?_
  refine gm_m_isOn hx hb hts hown hK hP fl_X11_7 dX11_kind_1 ?_
  refine sx_if_ne (tgt := 10) hx hb hF dX11_kind_4 (by decide) (fun hF => ?_) (fun hF => ?_)
  · refine lv_iload_n hx hb dX11_kind_10 rfl (lv_at hl 1 rfl) ?_
    refine sx_if_lt (tgt := 20) hx hb hF dX11_kind_11 (by decide) (fun hF => ?_) (fun hF => ?_)
    · exact hB20 u ls (lv_sub hl [] rfl) hF _ _ hP hS
    · refine lv_iload_n hx hb dX11_kind_14 rfl (lv_at hl 1 rfl) ?_
      refine lv_bipush (v := 64) hx hb dX11_kind_15 (by decide) ?_
      refine sx_icmp_lt (tgt := 25) hx hb hF dX11_kind_17 (by decide) (fun hF => ?_) (fun hF => ?_)
      · refine lv_aload_n hx hb dX11_kind_25 rfl (lv_at hl 0 rfl) ?_
        refine gm_m_kind hx hb hts hown hK hP fl_X11_40 dX11_kind_26 ?_
        refine lv_iload_n hx hb dX11_kind_29 rfl (lv_at hl 1 rfl) ?_
        refine lm_m_kind hx hb hK hP hF dX11_kind_30 (fun v1 hF => ?_)
        exact sx_reti (Wd := (am_W a cI)) (σ := u) hx hb hr hF hP hS hlocks dX11_kind_31
      · exact hB20 u ls (lv_sub hl [] rfl) hF _ _ hP hS
  · refine lv_bipush (v := (-99)) hx hb dX11_kind_7 (by decide) ?_
    exact sx_reti (Wd := (am_W a cI)) (σ := u) hx hb hr hF hP hS hlocks dX11_kind_9
set_option maxHeartbeats 4000000 in
set_option maxRecDepth 100000 in
theorem kt_X11_size {N : Nat} {l : Launch} {D : va_G} {a : Nat → Nat} {cI : Nat → ClassId} (hD : ∀ σ, va_D (am_A a) (am_W a cI σ)) {o1 : Int32} {u σ0 : q_St} {r0 : Int32} (hF : fX11_size N o1 u = some (r0, σ0)) : Met l yX11_size (Cond.code yX11_size cX11_size 2 (some .int) :: q_T) ({ frames := 2, cells := 0, slots := 0, locals := 44 } : Room) (q_P D vwCl (am_T cI) (am_W a cI) [.ref (a 0), .int o1] u) (q_Qi D vwCl (am_W a cI) (am_A a) r0 σ0) 0 0 (am_A a) := by
  refine Met.ofW (cc := cX11_size) (maxL := 2) (ret := (some .int)) (by decide) rfl ?_
  intro p e s m args below meth c s₁ B hml hv
  obtain ⟨rfl, hP, hK⟩ := hv
  have hx := B.exec
  have hb := B.bytes
  have hr := B.returns
  have hts := q_ts (atoms_spec (ws := Cond.code yX11_size cX11_size 2 (some .int) :: q_T) B.pre)
  have hown : s.vm.findClass RX11 = some m.cls := findClass_of_methodNamed B.named
  have hlocks := B.notSynchronized
  have hS : va_S (am_A a) s.heap s.heap [] := va_S.rf
  have hl := lv_entry ([.ref (a 0), .int o1]) (n := 2) (Nat.le_of_ble_eq_true rfl)
  rw [lg_entry_eq]
  generalize (lg_sl ([.ref (a 0), .int o1]) ++ List.replicate (2 - (lg_sl ([.ref (a 0), .int o1])).length) Slot.unset).toArray = ls at hl ⊢
  have hl : lv_has ls 2 [(0, .ref (a 0)), (1, .int o1)] := hl
  unfold fX11_size at hF
  refine lv_aload_n hx hb dX11_size_0 rfl (lv_at hl 0 rfl) ?_
  refine gm_m_isOn hx hb hts hown hK hP fl_X11_7 dX11_size_1 ?_
  refine sx_if_ne (tgt := 10) hx hb hF dX11_size_4 (by decide) (fun hF => ?_) (fun hF => ?_)
  · refine lv_iload_n hx hb dX11_size_10 rfl (lv_at hl 1 rfl) ?_
    refine sx_if_lt (tgt := 29) hx hb hF dX11_size_11 (by decide) (fun hF => ?_) (fun hF => ?_)
    · refine lv_bipush (v := (-10)) hx hb dX11_size_29 (by decide) ?_
      exact sx_reti (Wd := (am_W a cI)) (σ := u) hx hb hr hF hP hS hlocks dX11_size_31
    · refine lv_iload_n hx hb dX11_size_14 rfl (lv_at hl 1 rfl) ?_
      refine lv_bipush (v := 64) hx hb dX11_size_15 (by decide) ?_
      refine sx_icmp_ge (tgt := 29) hx hb hF dX11_size_17 (by decide) (fun hF => ?_) (fun hF => ?_)
      · refine lv_bipush (v := (-10)) hx hb dX11_size_29 (by decide) ?_
        exact sx_reti (Wd := (am_W a cI)) (σ := u) hx hb hr hF hP hS hlocks dX11_size_31
      · refine lv_aload_n hx hb dX11_size_20 rfl (lv_at hl 0 rfl) ?_
        refine gm_m_kind hx hb hts hown hK hP fl_X11_40 dX11_size_21 ?_
        refine lv_iload_n hx hb dX11_size_24 rfl (lv_at hl 1 rfl) ?_
        refine lm_m_kind hx hb hK hP hF dX11_size_25 (fun v1 hF => ?_)
        refine sx_if_ne (tgt := 32) hx hb hF dX11_size_26 (by decide) (fun hF => ?_) (fun hF => ?_)
        · refine lv_aload_n hx hb dX11_size_32 rfl (lv_at hl 0 rfl) ?_
          refine gm_m_kind hx hb hts hown hK hP fl_X11_40 dX11_size_33 ?_
          refine lv_iload_n hx hb dX11_size_36 rfl (lv_at hl 1 rfl) ?_
          refine lm_m_kind hx hb hK hP hF dX11_size_37 (fun v2 hF => ?_)
          refine lv_iconst (v := 2) hx hb dX11_size_38 (by decide) ?_
          refine sx_icmp_ne (tgt := 50) hx hb hF dX11_size_39 (by decide) (fun hF => ?_) (fun hF => ?_)
          · refine lv_aload_n hx hb dX11_size_50 rfl (lv_at hl 0 rfl) ?_
            refine gm_m_size hx hb hts hown hK hP fl_X11_43 dX11_size_51 ?_
            refine lv_iload_n hx hb dX11_size_54 rfl (lv_at hl 1 rfl) ?_
            refine lm_m_size hx hb hK hP hF dX11_size_55 (fun v3 hF => ?_)
            exact sx_reti (Wd := (am_W a cI)) (σ := u) hx hb hr hF hP hS hlocks dX11_size_56
          · refine lv_aload_n hx hb dX11_size_42 rfl (lv_at hl 0 rfl) ?_
            refine lv_iload_n hx hb dX11_size_43 rfl (lv_at hl 1 rfl) ?_
            obtain ⟨r4, u5, hc6, hF⟩ := q_bnd_some hF
            refine sx_ci (Wd := (am_W a cI)) (σ1 := u5) (q_runV (Wd := (am_W a cI)) (σ := u) (q0 := 0) (ci := 11) (T := TX11) (N := 72) (As := [.int o1]) (rest := []) hx hb hml hown hts hK hP (kt_X11_names hD hc6) cw_X11_443 rfl rfl ⟨Nat.le_of_ble_eq_true rfl, Nat.le_of_ble_eq_true rfl⟩ rfl rfl rfl hl.1 rfl (Nat.le_of_ble_eq_true rfl) dX11_size_44) hS (fun H locs hP hS => ?_)
            refine lv_goto (tgt := 56) hx hb dX11_size_47 (by decide) ?_
            exact sx_reti (Wd := (am_W a cI)) (σ := u5) hx hb hr hF hP hS hlocks dX11_size_56
        · refine lv_bipush (v := (-10)) hx hb dX11_size_29 (by decide) ?_
          exact sx_reti (Wd := (am_W a cI)) (σ := u) hx hb hr hF hP hS hlocks dX11_size_31
  · refine lv_bipush (v := (-99)) hx hb dX11_size_7 (by decide) ?_
    exact sx_reti (Wd := (am_W a cI)) (σ := u) hx hb hr hF hP hS hlocks dX11_size_9
set_option maxHeartbeats 4000000 in
set_option maxRecDepth 100000 in
theorem kt_X11_parent {N : Nat} {l : Launch} {D : va_G} {a : Nat → Nat} {cI : Nat → ClassId} (hD : ∀ σ, va_D (am_A a) (am_W a cI σ)) {o1 : Int32} {u σ0 : q_St} {r0 : Int32} (hF : fX11_parent N o1 u = some (r0, σ0)) : Met l yX11_parent (Cond.code yX11_parent cX11_parent 2 (some .int) :: q_T) ({ frames := 1, cells := 0, slots := 0, locals := 21 } : Room) (q_P D vwCl (am_T cI) (am_W a cI) [.ref (a 0), .int o1] u) (q_Qi D vwCl (am_W a cI) (am_A a) r0 σ0) 0 0 (am_A a) := by
  refine Met.ofW (cc := cX11_parent) (maxL := 2) (ret := (some .int)) (by decide) rfl ?_
  intro p e s m args below meth c s₁ B hml hv
  obtain ⟨rfl, hP, hK⟩ := hv
  have hx := B.exec
  have hb := B.bytes
  have hr := B.returns
  have hts := q_ts (atoms_spec (ws := Cond.code yX11_parent cX11_parent 2 (some .int) :: q_T) B.pre)
  have hown : s.vm.findClass RX11 = some m.cls := findClass_of_methodNamed B.named
  have hlocks := B.notSynchronized
  have hS : va_S (am_A a) s.heap s.heap [] := va_S.rf
  have hl := lv_entry ([.ref (a 0), .int o1]) (n := 2) (Nat.le_of_ble_eq_true rfl)
  rw [lg_entry_eq]
  generalize (lg_sl ([.ref (a 0), .int o1]) ++ List.replicate (2 - (lg_sl ([.ref (a 0), .int o1])).length) Slot.unset).toArray = ls at hl ⊢
  have hl : lv_has ls 2 [(0, .ref (a 0)), (1, .int o1)] := hl
  unfold fX11_parent at hF
  refine lv_aload_n hx hb dX11_parent_0 rfl (lv_at hl 0 rfl) ?_
  refine gm_m_isOn hx hb hts hown hK hP fl_X11_7 dX11_parent_1 ?_
  refine sx_if_ne (tgt := 10) hx hb hF dX11_parent_4 (by decide) (fun hF => ?_) (fun hF => ?_)
  · refine lv_aload_n hx hb dX11_parent_10 rfl (lv_at hl 0 rfl) ?_
    refine lv_iload_n hx hb dX11_parent_11 rfl (lv_at hl 1 rfl) ?_
    obtain ⟨r1, u2, hc3, hF⟩ := q_bnd_some hF
    refine sx_ci (Wd := (am_W a cI)) (σ1 := u2) (q_runV (Wd := (am_W a cI)) (σ := u) (q0 := 0) (ci := 11) (T := TX11) (N := 72) (As := [.int o1]) (rest := []) hx hb hml hown hts hK hP (kt_X11_isDirectory hD hc3) cw_X11_339 rfl rfl ⟨Nat.le_of_ble_eq_true rfl, Nat.le_of_ble_eq_true rfl⟩ rfl rfl rfl hl.1 rfl (Nat.le_of_ble_eq_true rfl) dX11_parent_12) hS (fun H locs hP hS => ?_)
    refine sx_if_eq (tgt := 27) hx hb hF dX11_parent_15 (by decide) (fun hF => ?_) (fun hF => ?_)
    · refine lv_bipush (v := (-10)) hx hb dX11_parent_27 (by decide) ?_
      exact sx_reti (Wd := (am_W a cI)) (σ := u2) hx hb hr hF hP hS hlocks dX11_parent_29
    · refine lv_aload_n hx hb dX11_parent_18 rfl (lv_at hl 0 rfl) ?_
      refine gm_m_parent hx hb hts hown hK hP fl_X11_46 dX11_parent_19 ?_
      refine lv_iload_n hx hb dX11_parent_22 rfl (lv_at hl 1 rfl) ?_
      refine lm_m_parent hx hb hK hP hF dX11_parent_23 (fun v4 hF => ?_)
      refine lv_goto (tgt := 29) hx hb dX11_parent_24 (by decide) ?_
      exact sx_reti (Wd := (am_W a cI)) (σ := u2) hx hb hr hF hP hS hlocks dX11_parent_29
  · refine lv_bipush (v := (-99)) hx hb dX11_parent_7 (by decide) ?_
    exact sx_reti (Wd := (am_W a cI)) (σ := u) hx hb hr hF hP hS hlocks dX11_parent_9
set_option maxHeartbeats 4000000 in
set_option maxRecDepth 100000 in
theorem kt_X11_block {N : Nat} {l : Launch} {D : va_G} {a : Nat → Nat} {cI : Nat → ClassId} (hD : ∀ σ, va_D (am_A a) (am_W a cI σ)) {o1 : Int32} {o2 : Int32} {u σ0 : q_St} {r0 : Int32} (hF : fX11_block N o1 o2 u = some (r0, σ0)) : Met l yX11_block (Cond.code yX11_block cX11_block 4 (some .int) :: q_T) ({ frames := 1, cells := 0, slots := 0, locals := 21 } : Room) (q_P D vwCl (am_T cI) (am_W a cI) [.ref (a 0), .int o1, .int o2] u) (q_Qi D vwCl (am_W a cI) (am_A a) r0 σ0) 0 0 (am_A a) := by
  refine Met.ofW (cc := cX11_block) (maxL := 4) (ret := (some .int)) (by decide) rfl ?_
  intro p e s m args below meth c s₁ B hml hv
  obtain ⟨rfl, hP, hK⟩ := hv
  have hx := B.exec
  have hb := B.bytes
  have hr := B.returns
  have hts := q_ts (atoms_spec (ws := Cond.code yX11_block cX11_block 4 (some .int) :: q_T) B.pre)
  have hown : s.vm.findClass RX11 = some m.cls := findClass_of_methodNamed B.named
  have hlocks := B.notSynchronized
  have hS : va_S (am_A a) s.heap s.heap [] := va_S.rf
  have hl := lv_entry ([.ref (a 0), .int o1, .int o2]) (n := 4) (Nat.le_of_ble_eq_true rfl)
  rw [lg_entry_eq]
  generalize (lg_sl ([.ref (a 0), .int o1, .int o2]) ++ List.replicate (4 - (lg_sl ([.ref (a 0), .int o1, .int o2])).length) Slot.unset).toArray = ls at hl ⊢
  have hl : lv_has ls 4 [(0, .ref (a 0)), (1, .int o1), (2, .int o2)] := hl
  unfold fX11_block at hF
  refine lv_aload_n hx hb dX11_block_0 rfl (lv_at hl 0 rfl) ?_
  refine gm_m_isOn hx hb hts hown hK hP fl_X11_7 dX11_block_1 ?_
  refine sx_if_ne (tgt := 10) hx hb hF dX11_block_4 (by decide) (fun hF => ?_) (fun hF => ?_)
  · refine lv_aload_n hx hb dX11_block_10 rfl (lv_at hl 0 rfl) ?_
    refine lv_iload_n hx hb dX11_block_11 rfl (lv_at hl 1 rfl) ?_
    obtain ⟨r1, u2, hc3, hF⟩ := q_bnd_some hF
    refine sx_ci (Wd := (am_W a cI)) (σ1 := u2) (q_runV (Wd := (am_W a cI)) (σ := u) (q0 := 0) (ci := 11) (T := TX11) (N := 72) (As := [.int o1]) (rest := []) hx hb hml hown hts hK hP (kt_X11_isNode hD hc3) cw_X11_336 rfl rfl ⟨Nat.le_of_ble_eq_true rfl, Nat.le_of_ble_eq_true rfl⟩ rfl rfl rfl hl.1 rfl (Nat.le_of_ble_eq_true rfl) dX11_block_12) hS (fun H locs hP hS => ?_)
    refine sx_if_eq (tgt := 24) hx hb hF dX11_block_15 (by decide) (fun hF => ?_) (fun hF => ?_)
    · refine lv_iconst (v := (-1)) hx hb dX11_block_24 (by decide) ?_
      exact sx_reti (Wd := (am_W a cI)) (σ := u2) hx hb hr hF hP hS hlocks dX11_block_25
    · refine lv_iload_n hx hb dX11_block_18 rfl (lv_at hl 2 rfl) ?_
      refine lv_bipush (v := (-34)) hx hb dX11_block_19 (by decide) ?_
      refine sx_icmp_ge (tgt := 26) hx hb hF dX11_block_21 (by decide) (fun hF => ?_) (fun hF => ?_)
      · refine lv_aload_n hx hb dX11_block_26 rfl (lv_at hl 0 rfl) ?_
        refine gm_m_kind hx hb hts hown hK hP fl_X11_40 dX11_block_27 ?_
        refine lv_iload_n hx hb dX11_block_30 rfl (lv_at hl 1 rfl) ?_
        refine lm_m_kind hx hb hK hP hF dX11_block_31 (fun v4 hF => ?_)
        refine lv_istore_n (lv' := [(3, .int v4), (0, .ref (a 0)), (1, .int o1), (2, .int o2)]) hx hb dX11_block_32 rfl hl (by decide) rfl (fun ls hl => ?_)
        refine lv_iload_n hx hb dX11_block_33 rfl (lv_at hl 3 rfl) ?_
        refine sx_if_ge (tgt := 60) hx hb hF dX11_block_34 (by decide) (fun hF => ?_) (fun hF => ?_)
        · refine lv_iload_n hx hb dX11_block_60 rfl (lv_at hl 0 rfl) ?_
          refine lv_iconst (v := 3) hx hb dX11_block_61 (by decide) ?_
          refine sx_icmp_ne (tgt := 89) hx hb hF dX11_block_62 (by decide) (fun hF => ?_) (fun hF => ?_)
          · refine lv_iload_n hx hb dX11_block_89 rfl (lv_at hl 0 rfl) ?_
            refine lv_iconst (v := 2) hx hb dX11_block_90 (by decide) ?_
            refine sx_icmp_ne (tgt := 120) hx hb hF dX11_block_91 (by decide) (fun hF => ?_) (fun hF => ?_)
            · refine lv_iload_n hx hb dX11_block_120 rfl (lv_at hl 0 rfl) ?_
              refine lv_iconst (v := 1) hx hb dX11_block_121 (by decide) ?_
              refine sx_icmp_ne (tgt := 147) hx hb hF dX11_block_122 (by decide) (fun hF => ?_) (fun hF => ?_)
              · refine lv_iconst (v := (-1)) hx hb dX11_block_147 (by decide) ?_
                exact sx_reti (Wd := (am_W a cI)) (σ := u2) hx hb hr hF hP hS hlocks dX11_block_148
              · refine lv_iload_n hx hb dX11_block_125 rfl (lv_at hl 3 rfl) ?_
                refine lv_sipush (v := 1068) hx hb dX11_block_126 (by decide) ?_
                refine sx_icmp_ge (tgt := 147) hx hb hF dX11_block_129 (by decide) (fun hF => ?_) (fun hF => ?_)
                · refine lv_iconst (v := (-1)) hx hb dX11_block_147 (by decide) ?_
                  exact sx_reti (Wd := (am_W a cI)) (σ := u2) hx hb hr hF hP hS hlocks dX11_block_148
                · refine lv_aload_n hx hb dX11_block_132 rfl (lv_at hl 1 rfl) ?_
                  refine gm_m_piece hx hb hts hown hK hP fl_X11_53 dX11_block_133 ?_
                  refine lv_sipush (v := 1068) hx hb dX11_block_136 (by decide) ?_
                  refine lv_iload_n hx hb dX11_block_139 rfl (lv_at hl 2 rfl) ?_
                  refine lv_imul hx hb dX11_block_140 ?_
                  refine lv_iload_n hx hb dX11_block_141 rfl (lv_at hl 3 rfl) ?_
                  refine lv_iadd hx hb dX11_block_142 ?_
                  refine lm_m_piece hx hb hK hP hF dX11_block_143 (fun v5 hF => ?_)
                  refine lv_goto (tgt := 148) hx hb dX11_block_144 (by decide) ?_
                  exact sx_reti (Wd := (am_W a cI)) (σ := u2) hx hb hr hF hP hS hlocks dX11_block_148
            · refine lv_iload_n hx hb dX11_block_94 rfl (lv_at hl 3 rfl) ?_
              refine lv_aload_n hx hb dX11_block_95 rfl (lv_at hl 1 rfl) ?_
              refine gm_m_many hx hb hts hown hK hP fl_X11_49 dX11_block_96 ?_
              refine lv_iload_n hx hb dX11_block_99 rfl (lv_at hl 2 rfl) ?_
              refine lm_m_many hx hb hK hP hF dX11_block_100 (fun v6 hF => ?_)
              refine sx_icmp_ge (tgt := 118) hx hb hF dX11_block_101 (by decide) (fun hF => ?_) (fun hF => ?_)
              · refine lv_iconst (v := (-1)) hx hb dX11_block_118 (by decide) ?_
                exact sx_reti (Wd := (am_W a cI)) (σ := u2) hx hb hr hF hP hS hlocks dX11_block_119
              · refine lv_aload_n hx hb dX11_block_104 rfl (lv_at hl 1 rfl) ?_
                refine gm_m_block hx hb hts hown hK hP fl_X11_65 dX11_block_105 ?_
                refine lv_bipush (v := 12) hx hb dX11_block_108 (by decide) ?_
                refine lv_iload_n hx hb dX11_block_110 rfl (lv_at hl 2 rfl) ?_
                refine lv_imul hx hb dX11_block_111 ?_
                refine lv_iload_n hx hb dX11_block_112 rfl (lv_at hl 3 rfl) ?_
                refine lv_iadd hx hb dX11_block_113 ?_
                refine lm_m_block hx hb hK hP hF dX11_block_114 (fun v7 hF => ?_)
                refine lv_goto (tgt := 119) hx hb dX11_block_115 (by decide) ?_
                exact sx_reti (Wd := (am_W a cI)) (σ := u2) hx hb hr hF hP hS hlocks dX11_block_119
          · refine lv_iload_n hx hb dX11_block_65 rfl (lv_at hl 3 rfl) ?_
            refine lv_aload_n hx hb dX11_block_66 rfl (lv_at hl 1 rfl) ?_
            refine gm_m_wide hx hb hts hown hK hP fl_X11_165 dX11_block_67 ?_
            refine sx_icmp_ge (tgt := 87) hx hb hF dX11_block_70 (by decide) (fun hF => ?_) (fun hF => ?_)
            · refine lv_iconst (v := (-1)) hx hb dX11_block_87 (by decide) ?_
              exact sx_reti (Wd := (am_W a cI)) (σ := u2) hx hb hr hF hP hS hlocks dX11_block_88
            · refine lv_aload_n hx hb dX11_block_73 rfl (lv_at hl 1 rfl) ?_
              refine gm_m_block hx hb hts hown hK hP fl_X11_65 dX11_block_74 ?_
              refine lv_bipush (v := 12) hx hb dX11_block_77 (by decide) ?_
              refine lv_iload_n hx hb dX11_block_79 rfl (lv_at hl 2 rfl) ?_
              refine lv_imul hx hb dX11_block_80 ?_
              refine lm_m_block hx hb hK hP hF dX11_block_81 (fun v8 hF => ?_)
              refine lv_iload_n hx hb dX11_block_82 rfl (lv_at hl 3 rfl) ?_
              refine lv_iadd hx hb dX11_block_83 ?_
              refine lv_goto (tgt := 88) hx hb dX11_block_84 (by decide) ?_
              exact sx_reti (Wd := (am_W a cI)) (σ := u2) hx hb hr hF hP hS hlocks dX11_block_88
        · refine lv_iload_n hx hb dX11_block_37 rfl (lv_at hl 0 rfl) ?_
          refine lv_iconst (v := 1) hx hb dX11_block_38 (by decide) ?_
          refine sx_icmp_ne (tgt := 58) hx hb hF dX11_block_39 (by decide) (fun hF => ?_) (fun hF => ?_)
          · refine lv_iconst (v := (-1)) hx hb dX11_block_58 (by decide) ?_
            exact sx_reti (Wd := (am_W a cI)) (σ := u2) hx hb hr hF hP hS hlocks dX11_block_59
          · refine lv_aload_n hx hb dX11_block_42 rfl (lv_at hl 1 rfl) ?_
            refine gm_m_index hx hb hts hown hK hP fl_X11_56 dX11_block_43 ?_
            refine lv_bipush (v := 34) hx hb dX11_block_46 (by decide) ?_
            refine lv_iload_n hx hb dX11_block_48 rfl (lv_at hl 2 rfl) ?_
            refine lv_imul hx hb dX11_block_49 ?_
            refine lv_iconst (v := 1) hx hb dX11_block_50 (by decide) ?_
            refine lv_isub hx hb dX11_block_51 ?_
            refine lv_iload_n hx hb dX11_block_52 rfl (lv_at hl 3 rfl) ?_
            refine lv_isub hx hb dX11_block_53 ?_
            refine lm_m_index hx hb hK hP hF dX11_block_54 (fun v9 hF => ?_)
            refine lv_goto (tgt := 59) hx hb dX11_block_55 (by decide) ?_
            exact sx_reti (Wd := (am_W a cI)) (σ := u2) hx hb hr hF hP hS hlocks dX11_block_59
      · refine lv_iconst (v := (-1)) hx hb dX11_block_24 (by decide) ?_
        exact sx_reti (Wd := (am_W a cI)) (σ := u2) hx hb hr hF hP hS hlocks dX11_block_25
  · refine lv_bipush (v := (-99)) hx hb dX11_block_7 (by decide) ?_
    exact sx_reti (Wd := (am_W a cI)) (σ := u) hx hb hr hF hP hS hlocks dX11_block_9
set_option maxHeartbeats 4000000 in
set_option maxRecDepth 100000 in
theorem kt_X11_byteAt {N : Nat} {l : Launch} {D : va_G} {a : Nat → Nat} {cI : Nat → ClassId} (hD : ∀ σ, va_D (am_A a) (am_W a cI σ)) {o1 : Int32} {o2 : Int32} {u σ0 : q_St} {r0 : Int32} (hF : fX11_byteAt N o1 o2 u = some (r0, σ0)) : Met l yX11_byteAt (Cond.code yX11_byteAt cX11_byteAt 5 (some .int) :: q_T) ({ frames := 1, cells := 0, slots := 0, locals := 23 } : Room) (q_P D vwCl (am_T cI) (am_W a cI) [.ref (a 0), .int o1, .int o2] u) (q_Qi D vwCl (am_W a cI) (am_A a) r0 σ0) 0 0 (am_A a) := by
  refine Met.ofW (cc := cX11_byteAt) (maxL := 5) (ret := (some .int)) (by decide) rfl ?_
  intro p e s m args below meth c s₁ B hml hv
  obtain ⟨rfl, hP, hK⟩ := hv
  have hx := B.exec
  have hb := B.bytes
  have hr := B.returns
  have hts := q_ts (atoms_spec (ws := Cond.code yX11_byteAt cX11_byteAt 5 (some .int) :: q_T) B.pre)
  have hown : s.vm.findClass RX11 = some m.cls := findClass_of_methodNamed B.named
  have hlocks := B.notSynchronized
  have hS : va_S (am_A a) s.heap s.heap [] := va_S.rf
  have hl := lv_entry ([.ref (a 0), .int o1, .int o2]) (n := 5) (Nat.le_of_ble_eq_true rfl)
  rw [lg_entry_eq]
  generalize (lg_sl ([.ref (a 0), .int o1, .int o2]) ++ List.replicate (5 - (lg_sl ([.ref (a 0), .int o1, .int o2])).length) Slot.unset).toArray = ls at hl ⊢
  have hl : lv_has ls 5 [(0, .ref (a 0)), (1, .int o1), (2, .int o2)] := hl
  have hB66 : ∀ (x1 : Int32) (x2 : Int32) (x3 : Int32) (u : q_St) (ls : Array Slot), lv_has ls 5 [(0, .ref (a 0)), (1, .int x1), (2, .int x2), (3, .int x3)] → fX11_byteAt_b66 N x1 x2 x3 u = some (r0, σ0) → ∀ (H : Heap) (locs : List Loc), va_P D vwCl (am_W a cI u) H → va_S (am_A a) s.heap H locs → W p l e (headSpec (Cond.code yX11_byteAt cX11_byteAt 5 (some .int) :: q_T) ({ frames := 1, cells := 0, slots := 0, locals := 23 } : Room)).room s m ([.ref (a 0), .int o1, .int o2] : List Value).toArray below meth c H locs 0 0 (MQ below (q_Qi D vwCl (am_W a cI) (am_A a) r0 σ0) ([.ref (a 0), .int o1, .int o2] : List Value).toArray s 0 0 (am_A a)) (F0 m 66 ls []) := by
    intro x1 x2 x3 u ls hl hF _ _ hP hS
    unfold fX11_byteAt_b66 at hF
    refine lv_iload_n hx hb dX11_byteAt_66 rfl (lv_at hl 2 rfl) ?_
    refine sx_if_lt (tgt := 80) hx hb hF dX11_byteAt_67 (by decide) (fun hF => ?_) (fun hF => ?_)
    · refine lv_iconst (v := (-1)) hx hb dX11_byteAt_80 (by decide) ?_
      exact sx_reti (Wd := (am_W a cI)) (σ := u) hx hb hr hF hP hS hlocks dX11_byteAt_81
    · refine lv_iload_n hx hb dX11_byteAt_70 rfl (lv_at hl 2 rfl) ?_
      refine lv_aload_n hx hb dX11_byteAt_71 rfl (lv_at hl 0 rfl) ?_
      refine gm_m_size hx hb hts hown hK hP fl_X11_43 dX11_byteAt_72 ?_
      refine lv_iload_n hx hb dX11_byteAt_75 rfl (lv_at hl 1 rfl) ?_
      refine lm_m_size hx hb hK hP hF dX11_byteAt_76 (fun v4 hF => ?_)
      refine sx_icmp_lt (tgt := 82) hx hb hF dX11_byteAt_77 (by decide) (fun hF => ?_) (fun hF => ?_)
      · refine lv_iload_n hx hb dX11_byteAt_82 rfl (lv_at hl 3 rfl) ?_
        refine sx_if_eq (tgt := 102) hx hb hF dX11_byteAt_83 (by decide) (fun hF => ?_) (fun hF => ?_)
        · refine lv_aload_n hx hb dX11_byteAt_102 rfl (lv_at hl 0 rfl) ?_
          refine lv_iload_n hx hb dX11_byteAt_103 rfl (lv_at hl 1 rfl) ?_
          refine lv_iload_n hx hb dX11_byteAt_104 rfl (lv_at hl 2 rfl) ?_
          refine lv_bipush (v := 64) hx hb dX11_byteAt_105 (by decide) ?_
          refine lv_idiv hx hb dX11_byteAt_107 (by decide) ?_
          obtain ⟨r5, u6, hc7, hF⟩ := q_bnd_some hF
          refine sx_ci (Wd := (am_W a cI)) (σ1 := u6) (q_runV (Wd := (am_W a cI)) (σ := u) (q0 := 0) (ci := 11) (T := TX11) (N := 72) (As := [.int x1, .int (x2 / 64)]) (rest := []) hx hb hml hown hts hK hP (kt_X11_sectorOf hD hc7) cw_X11_428 rfl rfl ⟨Nat.le_of_ble_eq_true rfl, Nat.le_of_ble_eq_true rfl⟩ rfl rfl rfl hl.1 rfl (Nat.le_of_ble_eq_true rfl) dX11_byteAt_108) hS (fun H locs hP hS => ?_)
          refine lv_istore (lv' := [(4, .int r5), (0, .ref (a 0)), (1, .int x1), (2, .int x2), (3, .int x3)]) hx hb dX11_byteAt_111 hl (by decide) rfl (fun ls hl => ?_)
          refine lv_iload hx hb dX11_byteAt_113 (lv_at hl 0 rfl) ?_
          refine lv_iconst (v := (-1)) hx hb dX11_byteAt_115 (by decide) ?_
          refine sx_icmp_ne (tgt := 123) hx hb hF dX11_byteAt_116 (by decide) (fun hF => ?_) (fun hF => ?_)
          · refine lv_aload_n hx hb dX11_byteAt_123 rfl (lv_at hl 1 rfl) ?_
            refine gm_m_bytes hx hb hts hown hK hP fl_X11_86 dX11_byteAt_124 ?_
            refine lv_bipush (v := 64) hx hb dX11_byteAt_127 (by decide) ?_
            refine lv_iload hx hb dX11_byteAt_129 (lv_at hl 0 rfl) ?_
            refine lv_imul hx hb dX11_byteAt_131 ?_
            refine lv_iload_n hx hb dX11_byteAt_132 rfl (lv_at hl 3 rfl) ?_
            refine lv_bipush (v := 64) hx hb dX11_byteAt_133 (by decide) ?_
            refine lv_irem hx hb dX11_byteAt_135 (by decide) ?_
            refine lv_iadd hx hb dX11_byteAt_136 ?_
            refine lm_m_bytes hx hb hK hP hF dX11_byteAt_137 (fun v8 hF => ?_)
            refine lv_sipush (v := 255) hx hb dX11_byteAt_138 (by decide) ?_
            refine lv_iand hx hb dX11_byteAt_141 ?_
            exact sx_reti (Wd := (am_W a cI)) (σ := u6) hx hb hr hF hP hS hlocks dX11_byteAt_142
          · refine lv_iconst (v := 0) hx hb dX11_byteAt_119 (by decide) ?_
            refine lv_goto (tgt := 142) hx hb dX11_byteAt_120 (by decide) ?_
            exact sx_reti (Wd := (am_W a cI)) (σ := u6) hx hb hr hF hP hS hlocks dX11_byteAt_142
        · refine lv_aload_n hx hb dX11_byteAt_86 rfl (lv_at hl 0 rfl) ?_
          refine gm_m_text hx hb hts hown hK hP fl_X11_78 dX11_byteAt_87 ?_
          refine lv_bipush (v := 40) hx hb dX11_byteAt_90 (by decide) ?_
          refine lv_iload_n hx hb dX11_byteAt_92 rfl (lv_at hl 1 rfl) ?_
          refine lv_imul hx hb dX11_byteAt_93 ?_
          refine lv_iload_n hx hb dX11_byteAt_94 rfl (lv_at hl 2 rfl) ?_
          refine lv_iadd hx hb dX11_byteAt_95 ?_
          refine lm_m_text hx hb hK hP hF dX11_byteAt_96 (fun v9 hF => ?_)
          refine lv_sipush (v := 255) hx hb dX11_byteAt_97 (by decide) ?_
          refine lv_iand hx hb dX11_byteAt_100 ?_
          exact sx_reti (Wd := (am_W a cI)) (σ := u) hx hb hr hF hP hS hlocks dX11_byteAt_101
      · refine lv_iconst (v := (-1)) hx hb dX11_byteAt_80 (by decide) ?_
        exact sx_reti (Wd := (am_W a cI)) (σ := u) hx hb hr hF hP hS hlocks dX11_byteAt_81
  have hB50 : ∀ (x1 : Int32) (x2 : Int32) (x3 : Int32) (u : q_St) (ls : Array Slot), lv_has ls 5 [(0, .ref (a 0)), (1, .int x1), (2, .int x2), (3, .int x3)] → fX11_byteAt_b50 N x1 x2 x3 u = some (r0, σ0) → ∀ (H : Heap) (locs : List Loc), va_P D vwCl (am_W a cI u) H → va_S (am_A a) s.heap H locs → W p l e (headSpec (Cond.code yX11_byteAt cX11_byteAt 5 (some .int) :: q_T) ({ frames := 1, cells := 0, slots := 0, locals := 23 } : Room)).room s m ([.ref (a 0), .int o1, .int o2] : List Value).toArray below meth c H locs 0 0 (MQ below (q_Qi D vwCl (am_W a cI) (am_A a) r0 σ0) ([.ref (a 0), .int o1, .int o2] : List Value).toArray s 0 0 (am_A a)) (F0 m 50 ls []) := by
    intro x1 x2 x3 u ls hl hF _ _ hP hS
    unfold fX11_byteAt_b50 at hF
    refine lv_iload_n hx hb dX11_byteAt_50 rfl (lv_at hl 3 rfl) ?_
    refine sx_if_ne (tgt := 66) hx hb hF dX11_byteAt_51 (by decide) (fun hF => ?_) (fun hF => ?_)
    · exact hB66 x1 x2 x3 u ls (lv_sub hl [0, 1, 2, 3] rfl) hF _ _ hP hS
    · refine lv_aload_n hx hb dX11_byteAt_54 rfl (lv_at hl 0 rfl) ?_
      refine lv_iload_n hx hb dX11_byteAt_55 rfl (lv_at hl 1 rfl) ?_
      refine lv_iconst (v := 4) hx hb dX11_byteAt_56 (by decide) ?_
      obtain ⟨r10, u11, hc12, hF⟩ := q_bnd_some hF
      refine sx_ci (Wd := (am_W a cI)) (σ1 := u11) (q_runV (Wd := (am_W a cI)) (σ := u) (q0 := 0) (ci := 11) (T := TX11) (N := 72) (As := [.int x1, .int 4]) (rest := []) hx hb hml hown hts hK hP (kt_X11_may hD hc12) cw_X11_346 rfl rfl ⟨Nat.le_of_ble_eq_true rfl, Nat.le_of_ble_eq_true rfl⟩ rfl rfl rfl hl.1 rfl (Nat.le_of_ble_eq_true rfl) dX11_byteAt_57) hS (fun H locs hP hS => ?_)
      refine sx_if_ne (tgt := 66) hx hb hF dX11_byteAt_60 (by decide) (fun hF => ?_) (fun hF => ?_)
      · exact hB66 x1 x2 x3 u11 ls (lv_sub hl [0, 1, 2, 3] rfl) hF _ _ hP hS
      · refine lv_bipush (v := (-20)) hx hb dX11_byteAt_63 (by decide) ?_
        exact sx_reti (Wd := (am_W a cI)) (σ := u11) hx hb hr hF hP hS hlocks dX11_byteAt_65
  have hB33 : ∀ (x1 : Int32) (x2 : Int32) (y0 : Int32) (u : q_St) (ls : Array Slot), lv_has ls 5 [(0, .ref (a 0)), (1, .int x1), (2, .int x2)] → fX11_byteAt_b33 N x1 x2 y0 u = some (r0, σ0) → ∀ (H : Heap) (locs : List Loc), va_P D vwCl (am_W a cI u) H → va_S (am_A a) s.heap H locs → W p l e (headSpec (Cond.code yX11_byteAt cX11_byteAt 5 (some .int) :: q_T) ({ frames := 1, cells := 0, slots := 0, locals := 23 } : Room)).room s m ([.ref (a 0), .int o1, .int o2] : List Value).toArray below meth c H locs 0 0 (MQ below (q_Qi D vwCl (am_W a cI) (am_A a) r0 σ0) ([.ref (a 0), .int o1, .int o2] : List Value).toArray s 0 0 (am_A a)) (F0 m 33 ls [.int y0]) := by
    intro x1 x2 y0 u ls hl hF _ _ hP hS
    unfold fX11_byteAt_b33 at hF
    refine lv_istore_n (lv' := [(3, .int y0), (0, .ref (a 0)), (1, .int x1), (2, .int x2)]) hx hb dX11_byteAt_33 rfl hl (by decide) rfl (fun ls hl => ?_)
    refine lv_iload_n hx hb dX11_byteAt_34 rfl (lv_at hl 0 rfl) ?_
    refine sx_if_ne (tgt := 50) hx hb hF dX11_byteAt_35 (by decide) (fun hF => ?_) (fun hF => ?_)
    · exact hB50 x1 x2 y0 u ls (lv_sub hl [1, 2, 3, 0] rfl) hF _ _ hP hS
    · refine lv_aload_n hx hb dX11_byteAt_38 rfl (lv_at hl 1 rfl) ?_
      refine lv_iload_n hx hb dX11_byteAt_39 rfl (lv_at hl 2 rfl) ?_
      refine lv_iconst (v := 1) hx hb dX11_byteAt_40 (by decide) ?_
      obtain ⟨r13, u14, hc15, hF⟩ := q_bnd_some hF
      refine sx_ci (Wd := (am_W a cI)) (σ1 := u14) (q_runV (Wd := (am_W a cI)) (σ := u) (q0 := 0) (ci := 11) (T := TX11) (N := 72) (As := [.int x1, .int 1]) (rest := []) hx hb hml hown hts hK hP (kt_X11_isFile hD hc15) cw_X11_373 rfl rfl ⟨Nat.le_of_ble_eq_true rfl, Nat.le_of_ble_eq_true rfl⟩ rfl rfl rfl hl.1 rfl (Nat.le_of_ble_eq_true rfl) dX11_byteAt_41) hS (fun H locs hP hS => ?_)
      refine sx_if_ne (tgt := 50) hx hb hF dX11_byteAt_44 (by decide) (fun hF => ?_) (fun hF => ?_)
      · exact hB50 x1 x2 y0 u14 ls (lv_sub hl [1, 2, 3, 0] rfl) hF _ _ hP hS
      · refine lv_bipush (v := (-14)) hx hb dX11_byteAt_47 (by decide) ?_
        exact sx_reti (Wd := (am_W a cI)) (σ := u14) hx hb hr hF hP hS hlocks dX11_byteAt_49
  have hB32 : ∀ (x1 : Int32) (x2 : Int32) (u : q_St) (ls : Array Slot), lv_has ls 5 [(0, .ref (a 0)), (1, .int x1), (2, .int x2)] → fX11_byteAt_b32 N x1 x2 u = some (r0, σ0) → ∀ (H : Heap) (locs : List Loc), va_P D vwCl (am_W a cI u) H → va_S (am_A a) s.heap H locs → W p l e (headSpec (Cond.code yX11_byteAt cX11_byteAt 5 (some .int) :: q_T) ({ frames := 1, cells := 0, slots := 0, locals := 23 } : Room)).room s m ([.ref (a 0), .int o1, .int o2] : List Value).toArray below meth c H locs 0 0 (MQ below (q_Qi D vwCl (am_W a cI) (am_A a) r0 σ0) ([.ref (a 0), .int o1, .int o2] : List Value).toArray s 0 0 (am_A a)) (F0 m 32 ls []) := by
    intro x1 x2 u ls hl hF _ _ hP hS
    unfold fX11_byteAt_b32 at hF
    refine lv_iconst (v := 0) hx hb dX11_byteAt_32 (by decide) ?_
    exact hB33 x1 x2 0 u ls (lv_sub hl [0, 1, 2] rfl) hF _ _ hP hS
  unfold fX11_byteAt at hF
  refine lv_aload_n hx hb dX11_byteAt_0 rfl (lv_at hl 0 rfl) ?_
  refine gm_m_isOn hx hb hts hown hK hP fl_X11_7 dX11_byteAt_1 ?_
  refine sx_if_ne (tgt := 10) hx hb hF dX11_byteAt_4 (by decide) (fun hF => ?_) (fun hF => ?_)
  · refine lv_aload_n hx hb dX11_byteAt_10 rfl (lv_at hl 0 rfl) ?_
    refine lv_iload_n hx hb dX11_byteAt_11 rfl (lv_at hl 1 rfl) ?_
    obtain ⟨r1, u2, hc3, hF⟩ := q_bnd_some hF
    refine sx_ci (Wd := (am_W a cI)) (σ1 := u2) (q_runV (Wd := (am_W a cI)) (σ := u) (q0 := 0) (ci := 11) (T := TX11) (N := 72) (As := [.int o1]) (rest := []) hx hb hml hown hts hK hP (kt_X11_isNode hD hc3) cw_X11_336 rfl rfl ⟨Nat.le_of_ble_eq_true rfl, Nat.le_of_ble_eq_true rfl⟩ rfl rfl rfl hl.1 rfl (Nat.le_of_ble_eq_true rfl) dX11_byteAt_12) hS (fun H locs hP hS => ?_)
    refine sx_if_eq (tgt := 32) hx hb hF dX11_byteAt_15 (by decide) (fun hF => ?_) (fun hF => ?_)
    · exact hB32 o1 o2 u2 ls (lv_sub hl [0, 1, 2] rfl) hF _ _ hP hS
    · refine lv_aload_n hx hb dX11_byteAt_18 rfl (lv_at hl 0 rfl) ?_
      refine gm_m_kind hx hb hts hown hK hP fl_X11_40 dX11_byteAt_19 ?_
      refine lv_iload_n hx hb dX11_byteAt_22 rfl (lv_at hl 1 rfl) ?_
      refine lm_m_kind hx hb hK hP hF dX11_byteAt_23 (fun v16 hF => ?_)
      refine lv_iconst (v := 4) hx hb dX11_byteAt_24 (by decide) ?_
      refine sx_icmp_ne (tgt := 32) hx hb hF dX11_byteAt_25 (by decide) (fun hF => ?_) (fun hF => ?_)
      · exact hB32 o1 o2 u2 ls (lv_sub hl [0, 1, 2] rfl) hF _ _ hP hS
      · refine lv_iconst (v := 1) hx hb dX11_byteAt_28 (by decide) ?_
        refine lv_goto (tgt := 33) hx hb dX11_byteAt_29 (by decide) ?_
        exact hB33 o1 o2 1 u2 ls (lv_sub hl [0, 1, 2] rfl) hF _ _ hP hS
  · refine lv_bipush (v := (-99)) hx hb dX11_byteAt_7 (by decide) ?_
    exact sx_reti (Wd := (am_W a cI)) (σ := u) hx hb hr hF hP hS hlocks dX11_byteAt_9
set_option maxHeartbeats 4000000 in
set_option maxRecDepth 100000 in
theorem kt_X11_check {N : Nat} {l : Launch} {D : va_G} {a : Nat → Nat} {cI : Nat → ClassId} (hD : ∀ σ, va_D (am_A a) (am_W a cI σ))  {u σ0 : q_St} {r0 : Int32} (hF : fX11_check N u = some (r0, σ0)) : Met l yX11_check (Cond.code yX11_check cX11_check 1 (some .int) :: q_T) ({ frames := 0, cells := 0, slots := 0, locals := 0 } : Room) (q_P D vwCl (am_T cI) (am_W a cI) [.ref (a 0)] u) (q_Qi D vwCl (am_W a cI) (am_A a) r0 σ0) 0 0 (am_A a) := by
  refine Met.ofW (cc := cX11_check) (maxL := 1) (ret := (some .int)) (by decide) rfl ?_
  intro p e s m args below meth c s₁ B hml hv
  obtain ⟨rfl, hP, hK⟩ := hv
  have hx := B.exec
  have hb := B.bytes
  have hr := B.returns
  have hts := q_ts (atoms_spec (ws := Cond.code yX11_check cX11_check 1 (some .int) :: q_T) B.pre)
  have hown : s.vm.findClass RX11 = some m.cls := findClass_of_methodNamed B.named
  have hlocks := B.notSynchronized
  have hS : va_S (am_A a) s.heap s.heap [] := va_S.rf
  have hl := lv_entry ([.ref (a 0)]) (n := 1) (Nat.le_of_ble_eq_true rfl)
  rw [lg_entry_eq]
  generalize (lg_sl ([.ref (a 0)]) ++ List.replicate (1 - (lg_sl ([.ref (a 0)])).length) Slot.unset).toArray = ls at hl ⊢
  have hl : lv_has ls 1 [(0, .ref (a 0))] := hl
  unfold fX11_check at hF
  refine lv_aload_n hx hb dX11_check_0 rfl (lv_at hl 0 rfl) ?_
  refine gm_m_isOn hx hb hts hown hK hP fl_X11_7 dX11_check_1 ?_
  refine sx_if_eq (tgt := 11) hx hb hF dX11_check_4 (by decide) (fun hF => ?_) (fun hF => ?_)
  · refine lv_bipush (v := (-99)) hx hb dX11_check_11 (by decide) ?_
    exact sx_reti (Wd := (am_W a cI)) (σ := u) hx hb hr hF hP hS hlocks dX11_check_13
  · refine lv_iconst (v := 0) hx hb dX11_check_7 (by decide) ?_
    refine lv_goto (tgt := 13) hx hb dX11_check_8 (by decide) ?_
    exact sx_reti (Wd := (am_W a cI)) (σ := u) hx hb hr hF hP hS hlocks dX11_check_13
set_option maxHeartbeats 4000000 in
set_option maxRecDepth 100000 in
theorem kt_X11_scrub {N : Nat} {l : Launch} {D : va_G} {a : Nat → Nat} {cI : Nat → ClassId} (hD : ∀ σ, va_D (am_A a) (am_W a cI σ))  {u σ0 : q_St} {r0 : Int32} (hF : fX11_scrub N u = some (r0, σ0)) : Met l yX11_scrub (Cond.code yX11_scrub cX11_scrub 1 (some .int) :: q_T) ({ frames := 1, cells := 0, slots := 0, locals := 22 } : Room) (q_P D vwCl (am_T cI) (am_W a cI) [.ref (a 0)] u) (q_Qi D vwCl (am_W a cI) (am_A a) r0 σ0) 0 0 (am_A a) := by
  refine Met.ofW (cc := cX11_scrub) (maxL := 1) (ret := (some .int)) (by decide) rfl ?_
  intro p e s m args below meth c s₁ B hml hv
  obtain ⟨rfl, hP, hK⟩ := hv
  have hx := B.exec
  have hb := B.bytes
  have hr := B.returns
  have hts := q_ts (atoms_spec (ws := Cond.code yX11_scrub cX11_scrub 1 (some .int) :: q_T) B.pre)
  have hown : s.vm.findClass RX11 = some m.cls := findClass_of_methodNamed B.named
  have hlocks := B.notSynchronized
  have hS : va_S (am_A a) s.heap s.heap [] := va_S.rf
  have hl := lv_entry ([.ref (a 0)]) (n := 1) (Nat.le_of_ble_eq_true rfl)
  rw [lg_entry_eq]
  generalize (lg_sl ([.ref (a 0)]) ++ List.replicate (1 - (lg_sl ([.ref (a 0)])).length) Slot.unset).toArray = ls at hl ⊢
  have hl : lv_has ls 1 [(0, .ref (a 0))] := hl
  unfold fX11_scrub at hF
  refine lv_aload_n hx hb dX11_scrub_0 rfl (lv_at hl 0 rfl) ?_
  refine gm_m_isOn hx hb hts hown hK hP fl_X11_7 dX11_scrub_1 ?_
  refine sx_if_eq (tgt := 19) hx hb hF dX11_scrub_4 (by decide) (fun hF => ?_) (fun hF => ?_)
  · refine lv_bipush (v := (-99)) hx hb dX11_scrub_19 (by decide) ?_
    exact sx_reti (Wd := (am_W a cI)) (σ := u) hx hb hr hF hP hS hlocks dX11_scrub_21
  · refine lv_aload_n hx hb dX11_scrub_7 rfl (lv_at hl 0 rfl) ?_
    refine gm_m_all hx hb hts hown hK hP fl_X11_168 dX11_scrub_8 ?_
    refine lv_aload_n hx hb dX11_scrub_11 rfl (lv_at hl 0 rfl) ?_
    obtain ⟨r1, u2, hc3, hF⟩ := q_bnd_some hF
    refine sx_ci (Wd := (am_W a cI)) (σ1 := u2) (q_runV (Wd := (am_W a cI)) (σ := u) (q0 := 0) (ci := 11) (T := TX11) (N := 72) (As := []) (rest := [.int (q_i u 5)]) hx hb hml hown hts hK hP (kt_X11_freeBlocks hD hc3) cw_X11_422 rfl rfl ⟨Nat.le_of_ble_eq_true rfl, Nat.le_of_ble_eq_true rfl⟩ rfl rfl rfl hl.1 rfl (Nat.le_of_ble_eq_true rfl) dX11_scrub_12) hS (fun H locs hP hS => ?_)
    refine lv_isub hx hb dX11_scrub_15 ?_
    refine lv_goto (tgt := 21) hx hb dX11_scrub_16 (by decide) ?_
    exact sx_reti (Wd := (am_W a cI)) (σ := u2) hx hb hr hF hP hS hlocks dX11_scrub_21
set_option maxHeartbeats 4000000 in
set_option maxRecDepth 100000 in
theorem kt_X11_where {N : Nat} {l : Launch} {D : va_G} {a : Nat → Nat} {cI : Nat → ClassId} (hD : ∀ σ, va_D (am_A a) (am_W a cI σ)) {o1 : Int32} {u σ0 : q_St} {r0 : Int32} (hF : fX11_where N o1 u = some (r0, σ0)) : Met l yX11_where (Cond.code yX11_where cX11_where 2 (some .int) :: q_T) ({ frames := 1, cells := 0, slots := 0, locals := 22 } : Room) (q_P D vwCl (am_T cI) (am_W a cI) [.ref (a 0), .int o1] u) (q_Qi D vwCl (am_W a cI) (am_A a) r0 σ0) 0 0 (am_A a) := by
  refine Met.ofW (cc := cX11_where) (maxL := 2) (ret := (some .int)) (by decide) rfl ?_
  intro p e s m args below meth c s₁ B hml hv
  obtain ⟨rfl, hP, hK⟩ := hv
  have hx := B.exec
  have hb := B.bytes
  have hr := B.returns
  have hts := q_ts (atoms_spec (ws := Cond.code yX11_where cX11_where 2 (some .int) :: q_T) B.pre)
  have hown : s.vm.findClass RX11 = some m.cls := findClass_of_methodNamed B.named
  have hlocks := B.notSynchronized
  have hS : va_S (am_A a) s.heap s.heap [] := va_S.rf
  have hl := lv_entry ([.ref (a 0), .int o1]) (n := 2) (Nat.le_of_ble_eq_true rfl)
  rw [lg_entry_eq]
  generalize (lg_sl ([.ref (a 0), .int o1]) ++ List.replicate (2 - (lg_sl ([.ref (a 0), .int o1])).length) Slot.unset).toArray = ls at hl ⊢
  have hl : lv_has ls 2 [(0, .ref (a 0)), (1, .int o1)] := hl
  unfold fX11_where at hF
  refine lv_aload_n hx hb dX11_where_0 rfl (lv_at hl 0 rfl) ?_
  refine gm_m_isOn hx hb hts hown hK hP fl_X11_7 dX11_where_1 ?_
  refine sx_if_ne (tgt := 10) hx hb hF dX11_where_4 (by decide) (fun hF => ?_) (fun hF => ?_)
  · refine lv_iload_n hx hb dX11_where_10 rfl (lv_at hl 1 rfl) ?_
    refine sx_if_lt (tgt := 22) hx hb hF dX11_where_11 (by decide) (fun hF => ?_) (fun hF => ?_)
    · refine lv_bipush (v := (-15)) hx hb dX11_where_22 (by decide) ?_
      exact sx_reti (Wd := (am_W a cI)) (σ := u) hx hb hr hF hP hS hlocks dX11_where_24
    · refine lv_iload_n hx hb dX11_where_14 rfl (lv_at hl 1 rfl) ?_
      refine lv_aload_n hx hb dX11_where_15 rfl (lv_at hl 0 rfl) ?_
      refine gm_m_all hx hb hts hown hK hP fl_X11_168 dX11_where_16 ?_
      refine sx_icmp_lt (tgt := 25) hx hb hF dX11_where_19 (by decide) (fun hF => ?_) (fun hF => ?_)
      · refine lv_aload_n hx hb dX11_where_25 rfl (lv_at hl 0 rfl) ?_
        refine gm_m_latest hx hb hts hown hK hP fl_X11_28 dX11_where_26 ?_
        refine lv_iload_n hx hb dX11_where_29 rfl (lv_at hl 1 rfl) ?_
        refine lm_m_latest hx hb hK hP hF dX11_where_30 (fun v1 hF => ?_)
        refine lv_iconst (v := (-1)) hx hb dX11_where_31 (by decide) ?_
        refine sx_icmp_eq (tgt := 57) hx hb hF dX11_where_32 (by decide) (fun hF => ?_) (fun hF => ?_)
        · refine lv_iconst (v := (-1)) hx hb dX11_where_57 (by decide) ?_
          exact sx_reti (Wd := (am_W a cI)) (σ := u) hx hb hr hF hP hS hlocks dX11_where_58
        · refine lv_aload_n hx hb dX11_where_35 rfl (lv_at hl 0 rfl) ?_
          refine lv_aload_n hx hb dX11_where_36 rfl (lv_at hl 0 rfl) ?_
          refine gm_m_latest hx hb hts hown hK hP fl_X11_28 dX11_where_37 ?_
          refine lv_iload_n hx hb dX11_where_40 rfl (lv_at hl 1 rfl) ?_
          refine lm_m_latest hx hb hK hP hF dX11_where_41 (fun v2 hF => ?_)
          obtain ⟨r3, u4, hc5, hF⟩ := q_bnd_some hF
          refine sx_ci (Wd := (am_W a cI)) (σ1 := u4) (q_runV (Wd := (am_W a cI)) (σ := u) (q0 := 0) (ci := 11) (T := TX11) (N := 72) (As := [.int v2]) (rest := []) hx hb hml hown hts hK hP (kt_X11_isLive hD hc5) cw_X11_205 rfl rfl ⟨Nat.le_of_ble_eq_true rfl, Nat.le_of_ble_eq_true rfl⟩ rfl rfl rfl hl.1 rfl (Nat.le_of_ble_eq_true rfl) dX11_where_42) hS (fun H locs hP hS => ?_)
          refine sx_if_eq (tgt := 57) hx hb hF dX11_where_45 (by decide) (fun hF => ?_) (fun hF => ?_)
          · refine lv_iconst (v := (-1)) hx hb dX11_where_57 (by decide) ?_
            exact sx_reti (Wd := (am_W a cI)) (σ := u4) hx hb hr hF hP hS hlocks dX11_where_58
          · refine lv_aload_n hx hb dX11_where_48 rfl (lv_at hl 0 rfl) ?_
            refine gm_m_latest hx hb hts hown hK hP fl_X11_28 dX11_where_49 ?_
            refine lv_iload_n hx hb dX11_where_52 rfl (lv_at hl 1 rfl) ?_
            refine lm_m_latest hx hb hK hP hF dX11_where_53 (fun v6 hF => ?_)
            refine lv_goto (tgt := 58) hx hb dX11_where_54 (by decide) ?_
            exact sx_reti (Wd := (am_W a cI)) (σ := u4) hx hb hr hF hP hS hlocks dX11_where_58
      · refine lv_bipush (v := (-15)) hx hb dX11_where_22 (by decide) ?_
        exact sx_reti (Wd := (am_W a cI)) (σ := u) hx hb hr hF hP hS hlocks dX11_where_24
  · refine lv_bipush (v := (-99)) hx hb dX11_where_7 (by decide) ?_
    exact sx_reti (Wd := (am_W a cI)) (σ := u) hx hb hr hF hP hS hlocks dX11_where_9
set_option maxHeartbeats 4000000 in
set_option maxRecDepth 100000 in
theorem kt_X11_mark {N : Nat} {l : Launch} {D : va_G} {a : Nat → Nat} {cI : Nat → ClassId} (hD : ∀ σ, va_D (am_A a) (am_W a cI σ)) {o1 : Int32} {u σ0 : q_St} {r0 : Int32} (hF : fX11_mark N o1 u = some (r0, σ0)) : Met l yX11_mark (Cond.code yX11_mark cX11_mark 2 (some .int) :: q_T) ({ frames := 0, cells := 0, slots := 0, locals := 0 } : Room) (q_P D vwCl (am_T cI) (am_W a cI) [.ref (a 0), .int o1] u) (q_Qi D vwCl (am_W a cI) (am_A a) r0 σ0) 0 0 (am_A a) := by
  refine Met.ofW (cc := cX11_mark) (maxL := 2) (ret := (some .int)) (by decide) rfl ?_
  intro p e s m args below meth c s₁ B hml hv
  obtain ⟨rfl, hP, hK⟩ := hv
  have hx := B.exec
  have hb := B.bytes
  have hr := B.returns
  have hts := q_ts (atoms_spec (ws := Cond.code yX11_mark cX11_mark 2 (some .int) :: q_T) B.pre)
  have hown : s.vm.findClass RX11 = some m.cls := findClass_of_methodNamed B.named
  have hlocks := B.notSynchronized
  have hS : va_S (am_A a) s.heap s.heap [] := va_S.rf
  have hl := lv_entry ([.ref (a 0), .int o1]) (n := 2) (Nat.le_of_ble_eq_true rfl)
  rw [lg_entry_eq]
  generalize (lg_sl ([.ref (a 0), .int o1]) ++ List.replicate (2 - (lg_sl ([.ref (a 0), .int o1])).length) Slot.unset).toArray = ls at hl ⊢
  have hl : lv_has ls 2 [(0, .ref (a 0)), (1, .int o1)] := hl
  have hB22 : ∀ (u : q_St) (ls : Array Slot), lv_has ls 2 [] → fX11_mark_b22 N u = some (r0, σ0) → ∀ (H : Heap) (locs : List Loc), va_P D vwCl (am_W a cI u) H → va_S (am_A a) s.heap H locs → W p l e (headSpec (Cond.code yX11_mark cX11_mark 2 (some .int) :: q_T) ({ frames := 0, cells := 0, slots := 0, locals := 0 } : Room)).room s m ([.ref (a 0), .int o1] : List Value).toArray below meth c H locs 0 0 (MQ below (q_Qi D vwCl (am_W a cI) (am_A a) r0 σ0) ([.ref (a 0), .int o1] : List Value).toArray s 0 0 (am_A a)) (F0 m 22 ls []) := by
    intro u ls hl hF _ _ hP hS
    unfold fX11_mark_b22 at hF
    refine lv_bipush (v := (-15)) hx hb dX11_mark_22 (by decide) ?_
    refine lv_goto (tgt := 33) hx hb dX11_mark_24 (by decide) ?_
    exact sx_reti (Wd := (am_W a cI)) (σ := u) hx hb hr hF hP hS hlocks dX11_mark_33
  unfold fX11_mark at hF
  refine lv_aload_n hx hb dX11_mark_0 rfl (lv_at hl 0 rfl) ?_
  refine gm_m_isOn hx hb hts hown hK hP fl_X11_7 dX11_mark_1 ?_
  refine sx_if_ne (tgt := 10) hx hb hF dX11_mark_4 (by decide) (fun hF => ?_) (fun hF => ?_)
  · refine lv_iload_n hx hb dX11_mark_10 rfl (lv_at hl 1 rfl) ?_
    refine sx_if_lt (tgt := 22) hx hb hF dX11_mark_11 (by decide) (fun hF => ?_) (fun hF => ?_)
    · exact hB22 u ls (lv_sub hl [] rfl) hF _ _ hP hS
    · refine lv_iload_n hx hb dX11_mark_14 rfl (lv_at hl 1 rfl) ?_
      refine lv_aload_n hx hb dX11_mark_15 rfl (lv_at hl 0 rfl) ?_
      refine gm_m_bands hx hb hts hown hK hP fl_X11_153 dX11_mark_16 ?_
      refine sx_icmp_lt (tgt := 27) hx hb hF dX11_mark_19 (by decide) (fun hF => ?_) (fun hF => ?_)
      · refine lv_aload_n hx hb dX11_mark_27 rfl (lv_at hl 0 rfl) ?_
        refine gm_m_marks hx hb hts hown hK hP fl_X11_31 dX11_mark_28 ?_
        refine lv_iload_n hx hb dX11_mark_31 rfl (lv_at hl 1 rfl) ?_
        refine lm_m_marks hx hb hK hP hF dX11_mark_32 (fun v1 hF => ?_)
        exact sx_reti (Wd := (am_W a cI)) (σ := u) hx hb hr hF hP hS hlocks dX11_mark_33
      · exact hB22 u ls (lv_sub hl [] rfl) hF _ _ hP hS
  · refine lv_bipush (v := (-99)) hx hb dX11_mark_7 (by decide) ?_
    exact sx_reti (Wd := (am_W a cI)) (σ := u) hx hb hr hF hP hS hlocks dX11_mark_9
set_option maxHeartbeats 4000000 in
set_option maxRecDepth 100000 in
theorem kt_X11_lost {N : Nat} {l : Launch} {D : va_G} {a : Nat → Nat} {cI : Nat → ClassId} (hD : ∀ σ, va_D (am_A a) (am_W a cI σ))  {u σ0 : q_St} {r0 : Int32} (hF : fX11_lost N u = some (r0, σ0)) : Met l yX11_lost (Cond.code yX11_lost cX11_lost 3 (some .int) :: q_T) ({ frames := 0, cells := 0, slots := 0, locals := 0 } : Room) (q_P D vwCl (am_T cI) (am_W a cI) [.ref (a 0)] u) (q_Qi D vwCl (am_W a cI) (am_A a) r0 σ0) 0 0 (am_A a) := by
  refine Met.ofW (cc := cX11_lost) (maxL := 3) (ret := (some .int)) (by decide) rfl ?_
  intro p e s m args below meth c s₁ B hml hv
  obtain ⟨rfl, hP, hK⟩ := hv
  have hx := B.exec
  have hb := B.bytes
  have hr := B.returns
  have hts := q_ts (atoms_spec (ws := Cond.code yX11_lost cX11_lost 3 (some .int) :: q_T) B.pre)
  have hown : s.vm.findClass RX11 = some m.cls := findClass_of_methodNamed B.named
  have hlocks := B.notSynchronized
  have hS : va_S (am_A a) s.heap s.heap [] := va_S.rf
  have hl := lv_entry ([.ref (a 0)]) (n := 3) (Nat.le_of_ble_eq_true rfl)
  rw [lg_entry_eq]
  generalize (lg_sl ([.ref (a 0)]) ++ List.replicate (3 - (lg_sl ([.ref (a 0)])).length) Slot.unset).toArray = ls at hl ⊢
  have hl : lv_has ls 3 [(0, .ref (a 0))] := hl
  have hB60 : ∀ (ih37 : Int32 → Int32 → q_St → Option (Int32 × q_St)) (hi37 : ∀ (x1 : Int32) (x2 : Int32) (u : q_St) (ls : Array Slot), lv_has ls 3 [(0, .ref (a 0)), (1, .int x1), (2, .int x2)] → ih37 x1 x2 u = some (r0, σ0) → ∀ (H : Heap) (locs : List Loc), va_P D vwCl (am_W a cI u) H → va_S (am_A a) s.heap H locs → W p l e (headSpec (Cond.code yX11_lost cX11_lost 3 (some .int) :: q_T) ({ frames := 0, cells := 0, slots := 0, locals := 0 } : Room)).room s m ([.ref (a 0)] : List Value).toArray below meth c H locs 0 0 (MQ below (q_Qi D vwCl (am_W a cI) (am_A a) r0 σ0) ([.ref (a 0)] : List Value).toArray s 0 0 (am_A a)) (F0 m 37 ls [])), ∀ (x2 : Int32) (y0 : Int32) (y1 : Int32) (u : q_St) (ls : Array Slot), lv_has ls 3 [(0, .ref (a 0)), (2, .int x2)] → fX11_lost_b60 N ih37 x2 y0 y1 u = some (r0, σ0) → ∀ (H : Heap) (locs : List Loc), va_P D vwCl (am_W a cI u) H → va_S (am_A a) s.heap H locs → W p l e (headSpec (Cond.code yX11_lost cX11_lost 3 (some .int) :: q_T) ({ frames := 0, cells := 0, slots := 0, locals := 0 } : Room)).room s m ([.ref (a 0)] : List Value).toArray below meth c H locs 0 0 (MQ below (q_Qi D vwCl (am_W a cI) (am_A a) r0 σ0) ([.ref (a 0)] : List Value).toArray s 0 0 (am_A a)) (F0 m 60 ls [.int y0, .int y1]) := by
    intro ih37 hi37 x2 y0 y1 u ls hl hF _ _ hP hS
    unfold fX11_lost_b60 at hF
    refine lv_iadd hx hb dX11_lost_60 ?_
    refine sx_istore_n (lv2 := [(0, .ref (a 0)), (2, .int x2)]) hx hb hF dX11_lost_61 rfl hl (by decide) rfl (fun v2 hF ls hl => ?_)
    refine sx_iinc (d := 1) (k := 2) (lv2 := [(1, .int v2), (0, .ref (a 0))]) hx hb hF dX11_lost_62 hl rfl (by decide) (by decide) rfl (fun v3 hF ls hl => ?_)
    refine lv_goto (tgt := 37) hx hb dX11_lost_65 (by decide) ?_
    exact hi37 v2 v3 u ls (lv_sub hl [2, 1, 0] rfl) hF _ _ hP hS
  have hB37 : ∀ (n : Nat) (x1 : Int32) (x2 : Int32) (u : q_St) (ls : Array Slot), lv_has ls 3 [(0, .ref (a 0)), (1, .int x1), (2, .int x2)] → q_lp (fX11_lost_b37 N) (fun _ _ _ => none) n x1 x2 u = some (r0, σ0) → ∀ (H : Heap) (locs : List Loc), va_P D vwCl (am_W a cI u) H → va_S (am_A a) s.heap H locs → W p l e (headSpec (Cond.code yX11_lost cX11_lost 3 (some .int) :: q_T) ({ frames := 0, cells := 0, slots := 0, locals := 0 } : Room)).room s m ([.ref (a 0)] : List Value).toArray below meth c H locs 0 0 (MQ below (q_Qi D vwCl (am_W a cI) (am_A a) r0 σ0) ([.ref (a 0)] : List Value).toArray s 0 0 (am_A a)) (F0 m 37 ls []) := by
    intro n
    induction n with
    | zero => intro x1 x2 u ls hl hF; exact absurd (show (none : Option (Int32 × q_St)) = some _ from hF) (fun h => nomatch h)
    | succ n hi37 =>
      intro x1 x2 u ls hl hF _ _ hP hS
      obtain ⟨ih37, hih⟩ : ∃ q, q = q_lp (fX11_lost_b37 N) (fun _ _ _ => none) n := ⟨_, rfl⟩
      rw [← hih] at hi37
      have hF : fX11_lost_b37 N (q_lp (fX11_lost_b37 N) (fun _ _ _ => none) n) x1 x2 u = some (r0, σ0) := hF
      rw [← hih] at hF
      clear hih
      unfold fX11_lost_b37 at hF
      refine lv_iload_n hx hb dX11_lost_37 rfl (lv_at hl 2 rfl) ?_
      refine lv_aload_n hx hb dX11_lost_38 rfl (lv_at hl 0 rfl) ?_
      refine gm_m_wide hx hb hts hown hK hP fl_X11_165 dX11_lost_39 ?_
      refine sx_icmp_ge (tgt := 68) hx hb hF dX11_lost_42 (by decide) (fun hF => ?_) (fun hF => ?_)
      · refine lv_iload_n hx hb dX11_lost_68 rfl (lv_at hl 1 rfl) ?_
        exact sx_reti (Wd := (am_W a cI)) (σ := u) hx hb hr hF hP hS hlocks dX11_lost_69
      · refine lv_iload_n hx hb dX11_lost_45 rfl (lv_at hl 1 rfl) ?_
        refine lv_aload_n hx hb dX11_lost_46 rfl (lv_at hl 0 rfl) ?_
        refine gm_m_isScratchLost hx hb hts hown hK hP fl_X11_21 dX11_lost_47 ?_
        refine lv_iload_n hx hb dX11_lost_50 rfl (lv_at hl 2 rfl) ?_
        refine lm_m_isScratchLost hx hb hK hP hF dX11_lost_51 (fun v1 hF => ?_)
        refine sx_if_eq (tgt := 59) hx hb hF dX11_lost_52 (by decide) (fun hF => ?_) (fun hF => ?_)
        · refine lv_iconst (v := 0) hx hb dX11_lost_59 (by decide) ?_
          exact hB60 ih37 hi37 x2 0 x1 u ls (lv_sub hl [0, 2] rfl) hF _ _ hP hS
        · refine lv_iconst (v := 1) hx hb dX11_lost_55 (by decide) ?_
          refine lv_goto (tgt := 60) hx hb dX11_lost_56 (by decide) ?_
          exact hB60 ih37 hi37 x2 1 x1 u ls (lv_sub hl [0, 2] rfl) hF _ _ hP hS
  have hB27 : ∀ (ih4 : Int32 → Int32 → q_St → Option (Int32 × q_St)) (hi4 : ∀ (x1 : Int32) (x2 : Int32) (u : q_St) (ls : Array Slot), lv_has ls 3 [(0, .ref (a 0)), (1, .int x1), (2, .int x2)] → ih4 x1 x2 u = some (r0, σ0) → ∀ (H : Heap) (locs : List Loc), va_P D vwCl (am_W a cI u) H → va_S (am_A a) s.heap H locs → W p l e (headSpec (Cond.code yX11_lost cX11_lost 3 (some .int) :: q_T) ({ frames := 0, cells := 0, slots := 0, locals := 0 } : Room)).room s m ([.ref (a 0)] : List Value).toArray below meth c H locs 0 0 (MQ below (q_Qi D vwCl (am_W a cI) (am_A a) r0 σ0) ([.ref (a 0)] : List Value).toArray s 0 0 (am_A a)) (F0 m 4 ls [])), ∀ (x2 : Int32) (y0 : Int32) (y1 : Int32) (u : q_St) (ls : Array Slot), lv_has ls 3 [(0, .ref (a 0)), (2, .int x2)] → fX11_lost_b27 N ih4 x2 y0 y1 u = some (r0, σ0) → ∀ (H : Heap) (locs : List Loc), va_P D vwCl (am_W a cI u) H → va_S (am_A a) s.heap H locs → W p l e (headSpec (Cond.code yX11_lost cX11_lost 3 (some .int) :: q_T) ({ frames := 0, cells := 0, slots := 0, locals := 0 } : Room)).room s m ([.ref (a 0)] : List Value).toArray below meth c H locs 0 0 (MQ below (q_Qi D vwCl (am_W a cI) (am_A a) r0 σ0) ([.ref (a 0)] : List Value).toArray s 0 0 (am_A a)) (F0 m 27 ls [.int y0, .int y1]) := by
    intro ih4 hi4 x2 y0 y1 u ls hl hF _ _ hP hS
    unfold fX11_lost_b27 at hF
    refine lv_iadd hx hb dX11_lost_27 ?_
    refine sx_istore_n (lv2 := [(0, .ref (a 0)), (2, .int x2)]) hx hb hF dX11_lost_28 rfl hl (by decide) rfl (fun v5 hF ls hl => ?_)
    refine sx_iinc (d := 1) (k := 2) (lv2 := [(1, .int v5), (0, .ref (a 0))]) hx hb hF dX11_lost_29 hl rfl (by decide) (by decide) rfl (fun v6 hF ls hl => ?_)
    refine lv_goto (tgt := 4) hx hb dX11_lost_32 (by decide) ?_
    exact hi4 v5 v6 u ls (lv_sub hl [2, 1, 0] rfl) hF _ _ hP hS
  have hB4 : ∀ (n : Nat) (x1 : Int32) (x2 : Int32) (u : q_St) (ls : Array Slot), lv_has ls 3 [(0, .ref (a 0)), (1, .int x1), (2, .int x2)] → q_lp (fX11_lost_b4 N) (fun _ _ _ => none) n x1 x2 u = some (r0, σ0) → ∀ (H : Heap) (locs : List Loc), va_P D vwCl (am_W a cI u) H → va_S (am_A a) s.heap H locs → W p l e (headSpec (Cond.code yX11_lost cX11_lost 3 (some .int) :: q_T) ({ frames := 0, cells := 0, slots := 0, locals := 0 } : Room)).room s m ([.ref (a 0)] : List Value).toArray below meth c H locs 0 0 (MQ below (q_Qi D vwCl (am_W a cI) (am_A a) r0 σ0) ([.ref (a 0)] : List Value).toArray s 0 0 (am_A a)) (F0 m 4 ls []) := by
    intro n
    induction n with
    | zero => intro x1 x2 u ls hl hF; exact absurd (show (none : Option (Int32 × q_St)) = some _ from hF) (fun h => nomatch h)
    | succ n hi4 =>
      intro x1 x2 u ls hl hF _ _ hP hS
      obtain ⟨ih4, hih⟩ : ∃ q, q = q_lp (fX11_lost_b4 N) (fun _ _ _ => none) n := ⟨_, rfl⟩
      rw [← hih] at hi4
      have hF : fX11_lost_b4 N (q_lp (fX11_lost_b4 N) (fun _ _ _ => none) n) x1 x2 u = some (r0, σ0) := hF
      rw [← hih] at hF
      clear hih
      unfold fX11_lost_b4 at hF
      refine lv_iload_n hx hb dX11_lost_4 rfl (lv_at hl 2 rfl) ?_
      refine lv_aload_n hx hb dX11_lost_5 rfl (lv_at hl 0 rfl) ?_
      refine gm_m_all hx hb hts hown hK hP fl_X11_168 dX11_lost_6 ?_
      refine sx_icmp_ge (tgt := 35) hx hb hF dX11_lost_9 (by decide) (fun hF => ?_) (fun hF => ?_)
      · refine lv_iconst (v := 0) hx hb dX11_lost_35 (by decide) ?_
        refine lv_istore_n (lv' := [(2, .int 0), (0, .ref (a 0)), (1, .int x1)]) hx hb dX11_lost_36 rfl hl (by decide) rfl (fun ls hl => ?_)
        exact hB37 N x1 0 u ls (lv_sub hl [1, 2, 0] rfl) hF _ _ hP hS
      · refine lv_iload_n hx hb dX11_lost_12 rfl (lv_at hl 1 rfl) ?_
        refine lv_aload_n hx hb dX11_lost_13 rfl (lv_at hl 0 rfl) ?_
        refine gm_m_isLost hx hb hts hown hK hP fl_X11_17 dX11_lost_14 ?_
        refine lv_iload_n hx hb dX11_lost_17 rfl (lv_at hl 2 rfl) ?_
        refine lm_m_isLost hx hb hK hP hF dX11_lost_18 (fun v4 hF => ?_)
        refine sx_if_eq (tgt := 26) hx hb hF dX11_lost_19 (by decide) (fun hF => ?_) (fun hF => ?_)
        · refine lv_iconst (v := 0) hx hb dX11_lost_26 (by decide) ?_
          exact hB27 ih4 hi4 x2 0 x1 u ls (lv_sub hl [0, 2] rfl) hF _ _ hP hS
        · refine lv_iconst (v := 1) hx hb dX11_lost_22 (by decide) ?_
          refine lv_goto (tgt := 27) hx hb dX11_lost_23 (by decide) ?_
          exact hB27 ih4 hi4 x2 1 x1 u ls (lv_sub hl [0, 2] rfl) hF _ _ hP hS
  unfold fX11_lost at hF
  refine lv_iconst (v := 0) hx hb dX11_lost_0 (by decide) ?_
  refine lv_istore_n (lv' := [(1, .int 0), (0, .ref (a 0))]) hx hb dX11_lost_1 rfl hl (by decide) rfl (fun ls hl => ?_)
  refine lv_iconst (v := 0) hx hb dX11_lost_2 (by decide) ?_
  refine lv_istore_n (lv' := [(2, .int 0), (1, .int 0), (0, .ref (a 0))]) hx hb dX11_lost_3 rfl hl (by decide) rfl (fun ls hl => ?_)
  exact hB4 N 0 0 u ls (lv_sub hl [2, 1, 0] rfl) hF _ _ hP hS
