set_option maxHeartbeats 4000000 in
set_option maxRecDepth 100000 in
theorem kt_X11_put {N : Nat} {l : Launch} {D : va_G} {a : Nat → Nat} {cI : Nat → ClassId} (hD : ∀ σ, va_D (am_A a) (am_W a cI σ)) {o1 : Int32} {o2 : Int32} {u σ0 : q_St} {r0 : Int32} (hF : fX11_put N o1 o2 u = some (r0, σ0)) : Met l yX11_put (Cond.code yX11_put cX11_put 7 (some .int) :: q_T) ({ frames := 9, cells := 0, slots := 0, locals := 196 } : Room) (q_P D vwCl (am_T cI) (am_W a cI) [.ref (a 0), .int o1, .int o2] u) (q_Qi D vwCl (am_W a cI) (am_A a) r0 σ0) 0 0 (am_A a) := by
  refine Met.ofW (cc := cX11_put) (maxL := 7) (ret := (some .int)) (by decide) rfl ?_
  intro p e s m args below meth c s₁ B hml hv
  obtain ⟨rfl, hP, hK⟩ := hv
  have hx := B.exec
  have hb := B.bytes
  have hr := B.returns
  have hts := q_ts (atoms_spec (ws := Cond.code yX11_put cX11_put 7 (some .int) :: q_T) B.pre)
  have hown : s.vm.findClass RX11 = some m.cls := findClass_of_methodNamed B.named
  have hlocks := B.notSynchronized
  have hS : va_S (am_A a) s.heap s.heap [] := va_S.rf
  have hl := lv_entry ([.ref (a 0), .int o1, .int o2]) (n := 7) (Nat.le_of_ble_eq_true rfl)
  rw [lg_entry_eq]
  generalize (lg_sl ([.ref (a 0), .int o1, .int o2]) ++ List.replicate (7 - (lg_sl ([.ref (a 0), .int o1, .int o2])).length) Slot.unset).toArray = ls at hl ⊢
  have hl : lv_has ls 7 [(0, .ref (a 0)), (1, .int o1), (2, .int o2)] := hl
  have hB201 : ∀ (n : Nat) (x1 : Int32) (x2 : Int32) (x3 : Int32) (x5 : Int32) (u : q_St) (ls : Array Slot), lv_has ls 7 [(0, .ref (a 0)), (1, .int x1), (2, .int x2), (3, .int x3), (5, .int x5)] → q_lp (fX11_put_b201 N) (fun _ _ _ _ _ => none) n x1 x2 x3 x5 u = some (r0, σ0) → ∀ (H : Heap) (locs : List Loc), va_P D vwCl (am_W a cI u) H → va_S (am_A a) s.heap H locs → W p l e (headSpec (Cond.code yX11_put cX11_put 7 (some .int) :: q_T) ({ frames := 9, cells := 0, slots := 0, locals := 196 } : Room)).room s m ([.ref (a 0), .int o1, .int o2] : List Value).toArray below meth c H locs 0 0 (MQ below (q_Qi D vwCl (am_W a cI) (am_A a) r0 σ0) ([.ref (a 0), .int o1, .int o2] : List Value).toArray s 0 0 (am_A a)) (F0 m 201 ls []) := by
    intro n
    induction n with
    | zero => intro x1 x2 x3 x5 u ls hl hF; exact absurd (show (none : Option (Int32 × q_St)) = some _ from hF) (fun h => nomatch h)
    | succ n hi201 =>
      intro x1 x2 x3 x5 u ls hl hF _ _ hP hS
      obtain ⟨ih201, hih⟩ : ∃ q, q = q_lp (fX11_put_b201 N) (fun _ _ _ _ _ => none) n := ⟨_, rfl⟩
      rw [← hih] at hi201
      have hF : fX11_put_b201 N (q_lp (fX11_put_b201 N) (fun _ _ _ _ _ => none) n) x1 x2 x3 x5 u = some (r0, σ0) := hF
      rw [← hih] at hF
      clear hih
      unfold fX11_put_b201 at hF
      refine lv_iload hx hb dX11_put_201 (lv_at hl 4 rfl) ?_
      refine lv_iload_n hx hb dX11_put_203 rfl (lv_at hl 3 rfl) ?_
      refine sx_icmp_ge (tgt := 258) hx hb hF dX11_put_204 (by decide) (fun hF => ?_) (fun hF => ?_)
      · refine lv_iload_n hx hb dX11_put_258 rfl (lv_at hl 3 rfl) ?_
        exact sx_reti (Wd := (am_W a cI)) (σ := u) hx hb hr hF hP hS hlocks dX11_put_259
      · refine lv_aload_n hx hb dX11_put_207 rfl (lv_at hl 0 rfl) ?_
        refine lv_iload_n hx hb dX11_put_208 rfl (lv_at hl 1 rfl) ?_
        refine lv_iload_n hx hb dX11_put_209 rfl (lv_at hl 2 rfl) ?_
        refine lv_iload hx hb dX11_put_210 (lv_at hl 4 rfl) ?_
        refine lv_iadd hx hb dX11_put_212 ?_
        refine lv_bipush (v := 64) hx hb dX11_put_213 (by decide) ?_
        refine lv_idiv hx hb dX11_put_215 (by decide) ?_
        obtain ⟨r14, u15, hc16, hF⟩ := q_bnd_some hF
        refine sx_ci (Wd := (am_W a cI)) (σ1 := u15) (q_runV (Wd := (am_W a cI)) (σ := u) (q0 := 0) (ci := 11) (T := TX11) (N := 72) (As := [.int x1, .int ((x2 + x5) / 64)]) (rest := []) hx hb hml hown hts hK hP (kt_X11_sectorOf hD hc16) cw_X11_428 rfl rfl ⟨Nat.le_of_ble_eq_true rfl, Nat.le_of_ble_eq_true rfl⟩ rfl rfl rfl hl.1 rfl (Nat.le_of_ble_eq_true rfl) dX11_put_216) hS (fun H locs hP hS => ?_)
        refine lv_istore (lv' := [(6, .int r14), (0, .ref (a 0)), (1, .int x1), (2, .int x2), (3, .int x3), (5, .int x5)]) hx hb dX11_put_219 hl (by decide) rfl (fun ls hl => ?_)
        refine lv_aload_n hx hb dX11_put_221 rfl (lv_at hl 1 rfl) ?_
        refine gm_m_bytes hx hb hts hown hK hP fl_X11_86 dX11_put_222 ?_
        refine lv_bipush (v := 64) hx hb dX11_put_225 (by decide) ?_
        refine lv_iload hx hb dX11_put_227 (lv_at hl 0 rfl) ?_
        refine lv_imul hx hb dX11_put_229 ?_
        refine lv_iload_n hx hb dX11_put_230 rfl (lv_at hl 3 rfl) ?_
        refine lv_iload hx hb dX11_put_231 (lv_at hl 5 rfl) ?_
        refine lv_iadd hx hb dX11_put_233 ?_
        refine lv_bipush (v := 64) hx hb dX11_put_234 (by decide) ?_
        refine lv_irem hx hb dX11_put_236 (by decide) ?_
        refine lv_iadd hx hb dX11_put_237 ?_
        refine lv_aload_n hx hb dX11_put_238 rfl (lv_at hl 1 rfl) ?_
        refine gm_m_tape hx hb hts hown hK hP fl_X11_140 dX11_put_239 ?_
        refine lv_iload hx hb dX11_put_242 (lv_at hl 5 rfl) ?_
        refine lm_m_tape hx hb hK hP hF dX11_put_244 (fun v17 hF => ?_)
        refine um_m_bytes hx hb hK hP hD hS hF dX11_put_245 (fun u18 H locs hF hP hS => ?_)
        refine lv_aload_n hx hb dX11_put_246 rfl (lv_at hl 1 rfl) ?_
        refine lv_iload hx hb dX11_put_247 (lv_at hl 0 rfl) ?_
        obtain ⟨r19, u20, hc21, hF⟩ := q_bnd_some hF
        refine sx_cv (Wd := (am_W a cI)) (σ1 := u20) (q_runV (Wd := (am_W a cI)) (σ := u18) (q0 := 0) (ci := 11) (T := TX11) (N := 72) (As := [.int r14]) (rest := []) hx hb hml hown hts hK hP (kt_X11_soil hD hc21) cw_X11_294 rfl rfl ⟨Nat.le_of_ble_eq_true rfl, Nat.le_of_ble_eq_true rfl⟩ rfl rfl rfl hl.1 rfl (Nat.le_of_ble_eq_true rfl) dX11_put_249) hS (fun H locs hP hS => ?_)
        refine sx_iinc (d := 1) (k := 5) (lv2 := [(6, .int r14), (0, .ref (a 0)), (1, .int x1), (2, .int x2), (3, .int x3)]) hx hb hF dX11_put_252 hl rfl (by decide) (by decide) rfl (fun v22 hF ls hl => ?_)
        refine lv_goto (tgt := 201) hx hb dX11_put_255 (by decide) ?_
        exact hi201 x1 x2 x3 v22 u20 ls (lv_sub hl [2, 3, 4, 5, 0] rfl) hF _ _ hP hS
  have hB198 : ∀ (x1 : Int32) (x2 : Int32) (x3 : Int32) (u : q_St) (ls : Array Slot), lv_has ls 7 [(0, .ref (a 0)), (1, .int x1), (2, .int x2), (3, .int x3)] → fX11_put_b198 N x1 x2 x3 u = some (r0, σ0) → ∀ (H : Heap) (locs : List Loc), va_P D vwCl (am_W a cI u) H → va_S (am_A a) s.heap H locs → W p l e (headSpec (Cond.code yX11_put cX11_put 7 (some .int) :: q_T) ({ frames := 9, cells := 0, slots := 0, locals := 196 } : Room)).room s m ([.ref (a 0), .int o1, .int o2] : List Value).toArray below meth c H locs 0 0 (MQ below (q_Qi D vwCl (am_W a cI) (am_A a) r0 σ0) ([.ref (a 0), .int o1, .int o2] : List Value).toArray s 0 0 (am_A a)) (F0 m 198 ls []) := by
    intro x1 x2 x3 u ls hl hF _ _ hP hS
    unfold fX11_put_b198 at hF
    refine lv_iconst (v := 0) hx hb dX11_put_198 (by decide) ?_
    refine lv_istore (lv' := [(5, .int 0), (0, .ref (a 0)), (1, .int x1), (2, .int x2), (3, .int x3)]) hx hb dX11_put_199 hl (by decide) rfl (fun ls hl => ?_)
    exact hB201 N x1 x2 x3 0 u ls (lv_sub hl [1, 2, 3, 4, 0] rfl) hF _ _ hP hS
  have hB166 : ∀ (ih135 : Int32 → Int32 → Int32 → Int32 → Int32 → q_St → Option (Int32 × q_St)) (hi135 : ∀ (x1 : Int32) (x2 : Int32) (x3 : Int32) (x5 : Int32) (x6 : Int32) (u : q_St) (ls : Array Slot), lv_has ls 7 [(0, .ref (a 0)), (1, .int x1), (2, .int x2), (3, .int x3), (5, .int x5), (6, .int x6)] → ih135 x1 x2 x3 x5 x6 u = some (r0, σ0) → ∀ (H : Heap) (locs : List Loc), va_P D vwCl (am_W a cI u) H → va_S (am_A a) s.heap H locs → W p l e (headSpec (Cond.code yX11_put cX11_put 7 (some .int) :: q_T) ({ frames := 9, cells := 0, slots := 0, locals := 196 } : Room)).room s m ([.ref (a 0), .int o1, .int o2] : List Value).toArray below meth c H locs 0 0 (MQ below (q_Qi D vwCl (am_W a cI) (am_A a) r0 σ0) ([.ref (a 0), .int o1, .int o2] : List Value).toArray s 0 0 (am_A a)) (F0 m 135 ls [])), ∀ (x1 : Int32) (x2 : Int32) (x3 : Int32) (x5 : Int32) (x6 : Int32) (u : q_St) (ls : Array Slot), lv_has ls 7 [(0, .ref (a 0)), (1, .int x1), (2, .int x2), (3, .int x3), (5, .int x5), (6, .int x6)] → fX11_put_b166 N ih135 x1 x2 x3 x5 x6 u = some (r0, σ0) → ∀ (H : Heap) (locs : List Loc), va_P D vwCl (am_W a cI u) H → va_S (am_A a) s.heap H locs → W p l e (headSpec (Cond.code yX11_put cX11_put 7 (some .int) :: q_T) ({ frames := 9, cells := 0, slots := 0, locals := 196 } : Room)).room s m ([.ref (a 0), .int o1, .int o2] : List Value).toArray below meth c H locs 0 0 (MQ below (q_Qi D vwCl (am_W a cI) (am_A a) r0 σ0) ([.ref (a 0), .int o1, .int o2] : List Value).toArray s 0 0 (am_A a)) (F0 m 166 ls []) := by
    intro ih135 hi135 x1 x2 x3 x5 x6 u ls hl hF _ _ hP hS
    unfold fX11_put_b166 at hF
    refine sx_iinc (d := 1) (k := 5) (lv2 := [(0, .ref (a 0)), (1, .int x1), (2, .int x2), (3, .int x3), (5, .int x5)]) hx hb hF dX11_put_166 hl rfl (by decide) (by decide) rfl (fun v37 hF ls hl => ?_)
    refine lv_goto (tgt := 135) hx hb dX11_put_169 (by decide) ?_
    exact hi135 x1 x2 x3 x5 v37 u ls (lv_sub hl [1, 2, 3, 4, 5, 0] rfl) hF _ _ hP hS
  have hB135 : ∀ (n : Nat) (x1 : Int32) (x2 : Int32) (x3 : Int32) (x5 : Int32) (x6 : Int32) (u : q_St) (ls : Array Slot), lv_has ls 7 [(0, .ref (a 0)), (1, .int x1), (2, .int x2), (3, .int x3), (5, .int x5), (6, .int x6)] → q_lp (fX11_put_b135 N) (fun _ _ _ _ _ _ => none) n x1 x2 x3 x5 x6 u = some (r0, σ0) → ∀ (H : Heap) (locs : List Loc), va_P D vwCl (am_W a cI u) H → va_S (am_A a) s.heap H locs → W p l e (headSpec (Cond.code yX11_put cX11_put 7 (some .int) :: q_T) ({ frames := 9, cells := 0, slots := 0, locals := 196 } : Room)).room s m ([.ref (a 0), .int o1, .int o2] : List Value).toArray below meth c H locs 0 0 (MQ below (q_Qi D vwCl (am_W a cI) (am_A a) r0 σ0) ([.ref (a 0), .int o1, .int o2] : List Value).toArray s 0 0 (am_A a)) (F0 m 135 ls []) := by
    intro n
    induction n with
    | zero => intro x1 x2 x3 x5 x6 u ls hl hF; exact absurd (show (none : Option (Int32 × q_St)) = some _ from hF) (fun h => nomatch h)
    | succ n hi135 =>
      intro x1 x2 x3 x5 x6 u ls hl hF _ _ hP hS
      obtain ⟨ih135, hih⟩ : ∃ q, q = q_lp (fX11_put_b135 N) (fun _ _ _ _ _ _ => none) n := ⟨_, rfl⟩
      rw [← hih] at hi135
      have hF : fX11_put_b135 N (q_lp (fX11_put_b135 N) (fun _ _ _ _ _ _ => none) n) x1 x2 x3 x5 x6 u = some (r0, σ0) := hF
      rw [← hih] at hF
      clear hih
      unfold fX11_put_b135 at hF
      refine lv_iload hx hb dX11_put_135 (lv_at hl 5 rfl) ?_
      refine lv_iload hx hb dX11_put_137 (lv_at hl 4 rfl) ?_
      refine sx_icmp_gt (tgt := 172) hx hb hF dX11_put_139 (by decide) (fun hF => ?_) (fun hF => ?_)
      · refine lv_iload_n hx hb dX11_put_172 rfl (lv_at hl 2 rfl) ?_
        refine lv_iload_n hx hb dX11_put_173 rfl (lv_at hl 3 rfl) ?_
        refine lv_iadd hx hb dX11_put_174 ?_
        refine lv_aload_n hx hb dX11_put_175 rfl (lv_at hl 0 rfl) ?_
        refine gm_m_size hx hb hts hown hK hP fl_X11_43 dX11_put_176 ?_
        refine lv_iload_n hx hb dX11_put_179 rfl (lv_at hl 1 rfl) ?_
        refine lm_m_size hx hb hK hP hF dX11_put_180 (fun v31 hF => ?_)
        refine sx_icmp_le (tgt := 198) hx hb hF dX11_put_181 (by decide) (fun hF => ?_) (fun hF => ?_)
        · exact hB198 x1 x2 x3 u ls (lv_sub hl [0, 1, 2, 3] rfl) hF _ _ hP hS
        · refine lv_aload_n hx hb dX11_put_184 rfl (lv_at hl 0 rfl) ?_
          refine gm_m_size hx hb hts hown hK hP fl_X11_43 dX11_put_185 ?_
          refine lv_iload_n hx hb dX11_put_188 rfl (lv_at hl 1 rfl) ?_
          refine lv_iload_n hx hb dX11_put_189 rfl (lv_at hl 2 rfl) ?_
          refine lv_iload_n hx hb dX11_put_190 rfl (lv_at hl 3 rfl) ?_
          refine lv_iadd hx hb dX11_put_191 ?_
          refine um_m_size hx hb hK hP hD hS hF dX11_put_192 (fun u32 H locs hF hP hS => ?_)
          refine lv_aload_n hx hb dX11_put_193 rfl (lv_at hl 0 rfl) ?_
          refine lv_iload_n hx hb dX11_put_194 rfl (lv_at hl 1 rfl) ?_
          obtain ⟨r33, u34, hc35, hF⟩ := q_bnd_some hF
          refine sx_cv (Wd := (am_W a cI)) (σ1 := u34) (q_runV (Wd := (am_W a cI)) (σ := u32) (q0 := 0) (ci := 11) (T := TX11) (N := 72) (As := [.int x1]) (rest := []) hx hb hml hown hts hK hP (kt_X11_soilNode hD hc35) cw_X11_324 rfl rfl ⟨Nat.le_of_ble_eq_true rfl, Nat.le_of_ble_eq_true rfl⟩ rfl rfl rfl hl.1 rfl (Nat.le_of_ble_eq_true rfl) dX11_put_195) hS (fun H locs hP hS => ?_)
          exact hB198 x1 x2 x3 u34 ls (lv_sub hl [0, 1, 2, 3] rfl) hF _ _ hP hS
      · refine lv_aload_n hx hb dX11_put_142 rfl (lv_at hl 0 rfl) ?_
        refine gm_m_piece hx hb hts hown hK hP fl_X11_53 dX11_put_143 ?_
        refine lv_sipush (v := 1068) hx hb dX11_put_146 (by decide) ?_
        refine lv_iload_n hx hb dX11_put_149 rfl (lv_at hl 1 rfl) ?_
        refine lv_imul hx hb dX11_put_150 ?_
        refine lv_iload hx hb dX11_put_151 (lv_at hl 5 rfl) ?_
        refine lv_iadd hx hb dX11_put_153 ?_
        refine lm_m_piece hx hb hK hP hF dX11_put_154 (fun v36 hF => ?_)
        refine lv_iconst (v := (-1)) hx hb dX11_put_155 (by decide) ?_
        refine sx_icmp_ne (tgt := 166) hx hb hF dX11_put_156 (by decide) (fun hF => ?_) (fun hF => ?_)
        · exact hB166 ih135 hi135 x1 x2 x3 x5 x6 u ls (lv_sub hl [0, 1, 2, 3, 4, 5] rfl) hF _ _ hP hS
        · refine lv_aload_n hx hb dX11_put_159 rfl (lv_at hl 0 rfl) ?_
          refine lv_iload_n hx hb dX11_put_160 rfl (lv_at hl 1 rfl) ?_
          refine lv_iload hx hb dX11_put_161 (lv_at hl 5 rfl) ?_
          obtain ⟨r38, u39, hc40, hF⟩ := q_bnd_some hF
          refine sx_cv (Wd := (am_W a cI)) (σ1 := u39) (q_runV (Wd := (am_W a cI)) (σ := u) (q0 := 0) (ci := 11) (T := TX11) (N := 72) (As := [.int x1, .int x6]) (rest := []) hx hb hml hown hts hK hP (kt_X11_fillPiece hD hc40) cw_X11_425 rfl rfl ⟨Nat.le_of_ble_eq_true rfl, Nat.le_of_ble_eq_true rfl⟩ rfl rfl rfl hl.1 rfl (Nat.le_of_ble_eq_true rfl) dX11_put_163) hS (fun H locs hP hS => ?_)
          exact hB166 ih135 hi135 x1 x2 x3 x5 x6 u39 ls (lv_sub hl [0, 1, 2, 3, 4, 5] rfl) hF _ _ hP hS
  have hB65 : ∀ (x1 : Int32) (x2 : Int32) (x3 : Int32) (y0 : Int32) (u : q_St) (ls : Array Slot), lv_has ls 7 [(0, .ref (a 0)), (1, .int x1), (2, .int x2), (3, .int x3)] → fX11_put_b65 N x1 x2 x3 y0 u = some (r0, σ0) → ∀ (H : Heap) (locs : List Loc), va_P D vwCl (am_W a cI u) H → va_S (am_A a) s.heap H locs → W p l e (headSpec (Cond.code yX11_put cX11_put 7 (some .int) :: q_T) ({ frames := 9, cells := 0, slots := 0, locals := 196 } : Room)).room s m ([.ref (a 0), .int o1, .int o2] : List Value).toArray below meth c H locs 0 0 (MQ below (q_Qi D vwCl (am_W a cI) (am_A a) r0 σ0) ([.ref (a 0), .int o1, .int o2] : List Value).toArray s 0 0 (am_A a)) (F0 m 65 ls [.int y0]) := by
    intro x1 x2 x3 y0 u ls hl hF _ _ hP hS
    unfold fX11_put_b65 at hF
    refine lv_istore (lv' := [(4, .int y0), (0, .ref (a 0)), (1, .int x1), (2, .int x2), (3, .int x3)]) hx hb dX11_put_65 hl (by decide) rfl (fun ls hl => ?_)
    refine lv_iload_n hx hb dX11_put_67 rfl (lv_at hl 3 rfl) ?_
    refine sx_if_lt (tgt := 79) hx hb hF dX11_put_68 (by decide) (fun hF => ?_) (fun hF => ?_)
    · refine lv_bipush (v := (-15)) hx hb dX11_put_79 (by decide) ?_
      exact sx_reti (Wd := (am_W a cI)) (σ := u) hx hb hr hF hP hS hlocks dX11_put_81
    · refine lv_iload_n hx hb dX11_put_71 rfl (lv_at hl 3 rfl) ?_
      refine lv_iload hx hb dX11_put_72 (lv_at hl 0 rfl) ?_
      refine lv_iload_n hx hb dX11_put_74 rfl (lv_at hl 4 rfl) ?_
      refine lv_isub hx hb dX11_put_75 ?_
      refine sx_icmp_le (tgt := 82) hx hb hF dX11_put_76 (by decide) (fun hF => ?_) (fun hF => ?_)
      · refine lv_iload_n hx hb dX11_put_82 rfl (lv_at hl 4 rfl) ?_
        refine sx_if_ne (tgt := 88) hx hb hF dX11_put_83 (by decide) (fun hF => ?_) (fun hF => ?_)
        · refine lv_aload_n hx hb dX11_put_88 rfl (lv_at hl 1 rfl) ?_
          refine gm_m_kind hx hb hts hown hK hP fl_X11_40 dX11_put_89 ?_
          refine lv_iload_n hx hb dX11_put_92 rfl (lv_at hl 2 rfl) ?_
          refine lm_m_kind hx hb hK hP hF dX11_put_93 (fun v13 hF => ?_)
          refine lv_iconst (v := 1) hx hb dX11_put_94 (by decide) ?_
          refine sx_icmp_ne (tgt := 198) hx hb hF dX11_put_95 (by decide) (fun hF => ?_) (fun hF => ?_)
          · exact hB198 x1 x2 x3 u ls (lv_sub hl [1, 2, 3, 4] rfl) hF _ _ hP hS
          · refine lv_iload_n hx hb dX11_put_98 rfl (lv_at hl 3 rfl) ?_
            refine lv_iload_n hx hb dX11_put_99 rfl (lv_at hl 4 rfl) ?_
            refine lv_iadd hx hb dX11_put_100 ?_
            refine lv_iconst (v := 1) hx hb dX11_put_101 (by decide) ?_
            refine lv_isub hx hb dX11_put_102 ?_
            refine lv_bipush (v := 64) hx hb dX11_put_103 (by decide) ?_
            refine lv_idiv hx hb dX11_put_105 (by decide) ?_
            refine sx_istore (lv2 := [(4, .int y0), (0, .ref (a 0)), (1, .int x1), (2, .int x2), (3, .int x3)]) hx hb hF dX11_put_106 hl (by decide) rfl (fun v23 hF ls hl => ?_)
            refine lv_aload_n hx hb dX11_put_108 rfl (lv_at hl 2 rfl) ?_
            refine lv_iload_n hx hb dX11_put_109 rfl (lv_at hl 3 rfl) ?_
            refine lv_iload_n hx hb dX11_put_110 rfl (lv_at hl 4 rfl) ?_
            refine lv_bipush (v := 64) hx hb dX11_put_111 (by decide) ?_
            refine lv_idiv hx hb dX11_put_113 (by decide) ?_
            refine lv_iload hx hb dX11_put_114 (lv_at hl 0 rfl) ?_
            obtain ⟨r24, u25, hc26, hF⟩ := q_bnd_some hF
            refine sx_ci (Wd := (am_W a cI)) (σ1 := u25) (q_runV (Wd := (am_W a cI)) (σ := u) (q0 := 0) (ci := 11) (T := TX11) (N := 72) (As := [.int x1, .int (x2 / 64), .int v23]) (rest := []) hx hb hml hown hts hK hP (kt_X11_needs hD hc26) cw_X11_419 rfl rfl ⟨Nat.le_of_ble_eq_true rfl, Nat.le_of_ble_eq_true rfl⟩ rfl rfl rfl hl.1 rfl (Nat.le_of_ble_eq_true rfl) dX11_put_116) hS (fun H locs hP hS => ?_)
            refine lv_aload_n hx hb dX11_put_119 rfl (lv_at hl 2 rfl) ?_
            obtain ⟨r27, u28, hc29, hF⟩ := q_bnd_some hF
            refine sx_ci (Wd := (am_W a cI)) (σ1 := u28) (q_runV (Wd := (am_W a cI)) (σ := u25) (q0 := 0) (ci := 11) (T := TX11) (N := 72) (As := []) (rest := [.int r24]) hx hb hml hown hts hK hP (kt_X11_freeBlocks hD hc29) cw_X11_422 rfl rfl ⟨Nat.le_of_ble_eq_true rfl, Nat.le_of_ble_eq_true rfl⟩ rfl rfl rfl hl.1 rfl (Nat.le_of_ble_eq_true rfl) dX11_put_120) hS (fun H locs hP hS => ?_)
            refine sx_icmp_le (tgt := 129) hx hb hF dX11_put_123 (by decide) (fun hF => ?_) (fun hF => ?_)
            · refine lv_iload_n hx hb dX11_put_129 rfl (lv_at hl 4 rfl) ?_
              refine lv_bipush (v := 64) hx hb dX11_put_130 (by decide) ?_
              refine lv_idiv hx hb dX11_put_132 (by decide) ?_
              refine sx_istore (lv2 := [(5, .int v23), (4, .int y0), (0, .ref (a 0)), (1, .int x1), (2, .int x2), (3, .int x3)]) hx hb hF dX11_put_133 hl (by decide) rfl (fun v30 hF ls hl => ?_)
              exact hB135 N x1 x2 x3 v23 v30 u28 ls (lv_sub hl [3, 4, 5, 6, 1, 0] rfl) hF _ _ hP hS
            · refine lv_bipush (v := (-16)) hx hb dX11_put_126 (by decide) ?_
              exact sx_reti (Wd := (am_W a cI)) (σ := u28) hx hb hr hF hP hS hlocks dX11_put_128
        · refine lv_iconst (v := 0) hx hb dX11_put_86 (by decide) ?_
          exact sx_reti (Wd := (am_W a cI)) (σ := u) hx hb hr hF hP hS hlocks dX11_put_87
      · refine lv_bipush (v := (-15)) hx hb dX11_put_79 (by decide) ?_
        exact sx_reti (Wd := (am_W a cI)) (σ := u) hx hb hr hF hP hS hlocks dX11_put_81
  unfold fX11_put at hF
  refine lv_aload_n hx hb dX11_put_0 rfl (lv_at hl 0 rfl) ?_
  refine gm_m_length hx hb hts hown hK hP fl_X11_180 dX11_put_1 ?_
  refine sx_istore_n (lv2 := [(0, .ref (a 0)), (1, .int o1), (2, .int o2)]) hx hb hF dX11_put_4 rfl hl (by decide) rfl (fun v1 hF ls hl => ?_)
  refine lv_aload_n hx hb dX11_put_5 rfl (lv_at hl 1 rfl) ?_
  refine lv_iconst (v := 0) hx hb dX11_put_6 (by decide) ?_
  refine pm_m_length hx hb hts hown hK hP fl_X11_180 hD hS hF dX11_put_7 (fun u2 H locs hF hP hS => ?_)
  refine lv_aload_n hx hb dX11_put_10 rfl (lv_at hl 1 rfl) ?_
  obtain ⟨r3, u4, hc5, hF⟩ := q_bnd_some hF
  refine sx_ci (Wd := (am_W a cI)) (σ1 := u4) (q_runV (Wd := (am_W a cI)) (σ := u2) (q0 := 0) (ci := 11) (T := TX11) (N := 72) (As := []) (rest := []) hx hb hml hown hts hK hP (kt_X11_begins hD hc5) cw_X11_333 rfl rfl ⟨Nat.le_of_ble_eq_true rfl, Nat.le_of_ble_eq_true rfl⟩ rfl rfl rfl hl.1 rfl (Nat.le_of_ble_eq_true rfl) dX11_put_11) hS (fun H locs hP hS => ?_)
  refine sx_if_ne (tgt := 20) hx hb hF dX11_put_14 (by decide) (fun hF => ?_) (fun hF => ?_)
  · refine lv_aload_n hx hb dX11_put_20 rfl (lv_at hl 1 rfl) ?_
    refine lv_iload_n hx hb dX11_put_21 rfl (lv_at hl 2 rfl) ?_
    refine lv_iconst (v := 1) hx hb dX11_put_22 (by decide) ?_
    obtain ⟨r6, u7, hc8, hF⟩ := q_bnd_some hF
    refine sx_ci (Wd := (am_W a cI)) (σ1 := u7) (q_runV (Wd := (am_W a cI)) (σ := u4) (q0 := 0) (ci := 11) (T := TX11) (N := 72) (As := [.int o1, .int 1]) (rest := []) hx hb hml hown hts hK hP (kt_X11_isFile hD hc8) cw_X11_373 rfl rfl ⟨Nat.le_of_ble_eq_true rfl, Nat.le_of_ble_eq_true rfl⟩ rfl rfl rfl hl.1 rfl (Nat.le_of_ble_eq_true rfl) dX11_put_23) hS (fun H locs hP hS => ?_)
    refine sx_if_ne (tgt := 32) hx hb hF dX11_put_26 (by decide) (fun hF => ?_) (fun hF => ?_)
    · refine lv_aload_n hx hb dX11_put_32 rfl (lv_at hl 1 rfl) ?_
      refine lv_iload_n hx hb dX11_put_33 rfl (lv_at hl 2 rfl) ?_
      refine lv_iconst (v := 2) hx hb dX11_put_34 (by decide) ?_
      obtain ⟨r9, u10, hc11, hF⟩ := q_bnd_some hF
      refine sx_ci (Wd := (am_W a cI)) (σ1 := u10) (q_runV (Wd := (am_W a cI)) (σ := u7) (q0 := 0) (ci := 11) (T := TX11) (N := 72) (As := [.int o1, .int 2]) (rest := []) hx hb hml hown hts hK hP (kt_X11_may hD hc11) cw_X11_346 rfl rfl ⟨Nat.le_of_ble_eq_true rfl, Nat.le_of_ble_eq_true rfl⟩ rfl rfl rfl hl.1 rfl (Nat.le_of_ble_eq_true rfl) dX11_put_35) hS (fun H locs hP hS => ?_)
      refine sx_if_ne (tgt := 44) hx hb hF dX11_put_38 (by decide) (fun hF => ?_) (fun hF => ?_)
      · refine lv_aload_n hx hb dX11_put_44 rfl (lv_at hl 1 rfl) ?_
        refine gm_m_kind hx hb hts hown hK hP fl_X11_40 dX11_put_45 ?_
        refine lv_iload_n hx hb dX11_put_48 rfl (lv_at hl 2 rfl) ?_
        refine lm_m_kind hx hb hK hP hF dX11_put_49 (fun v12 hF => ?_)
        refine lv_iconst (v := 3) hx hb dX11_put_50 (by decide) ?_
        refine sx_icmp_ne (tgt := 63) hx hb hF dX11_put_51 (by decide) (fun hF => ?_) (fun hF => ?_)
        · refine lv_ldc (v := 68352) hx hb hown (hts _ kc_X11_52) dX11_put_63 ?_
          exact hB65 o1 o2 v1 68352 u10 ls (lv_sub hl [1, 2, 3, 0] rfl) hF _ _ hP hS
        · refine lv_aload_n hx hb dX11_put_54 rfl (lv_at hl 1 rfl) ?_
          refine gm_m_size hx hb hts hown hK hP fl_X11_43 dX11_put_55 ?_
          refine lv_iload_n hx hb dX11_put_58 rfl (lv_at hl 2 rfl) ?_
          refine lm_m_size hx hb hK hP hF dX11_put_59 (fun v41 hF => ?_)
          refine lv_goto (tgt := 65) hx hb dX11_put_60 (by decide) ?_
          exact hB65 o1 o2 v1 v41 u10 ls (lv_sub hl [1, 2, 3, 0] rfl) hF _ _ hP hS
      · refine lv_bipush (v := (-20)) hx hb dX11_put_41 (by decide) ?_
        exact sx_reti (Wd := (am_W a cI)) (σ := u10) hx hb hr hF hP hS hlocks dX11_put_43
    · refine lv_bipush (v := (-14)) hx hb dX11_put_29 (by decide) ?_
      exact sx_reti (Wd := (am_W a cI)) (σ := u7) hx hb hr hF hP hS hlocks dX11_put_31
  · refine lv_bipush (v := (-99)) hx hb dX11_put_17 (by decide) ?_
    exact sx_reti (Wd := (am_W a cI)) (σ := u4) hx hb hr hF hP hS hlocks dX11_put_19
set_option maxHeartbeats 4000000 in
set_option maxRecDepth 100000 in
theorem kt_X11_wash {N : Nat} {l : Launch} {D : va_G} {a : Nat → Nat} {cI : Nat → ClassId} (hD : ∀ σ, va_D (am_A a) (am_W a cI σ)) {o1 : Int32} {u σ0 : q_St} {r0 : Unit} (hF : fX11_wash N o1 u = some (r0, σ0)) : Met l yX11_wash (Cond.code yX11_wash cX11_wash 2 none :: q_T) ({ frames := 0, cells := 0, slots := 0, locals := 0 } : Room) (q_P D vwCl (am_T cI) (am_W a cI) [.ref (a 0), .int o1] u) (q_Qv D vwCl (am_W a cI) (am_A a) σ0) 0 0 (am_A a) := by
  refine Met.ofW (cc := cX11_wash) (maxL := 2) (ret := none) (by decide) rfl ?_
  intro p e s m args below meth c s₁ B hml hv
  obtain ⟨rfl, hP, hK⟩ := hv
  have hx := B.exec
  have hb := B.bytes
  have hr := B.returns
  have hts := q_ts (atoms_spec (ws := Cond.code yX11_wash cX11_wash 2 none :: q_T) B.pre)
  have hown : s.vm.findClass RX11 = some m.cls := findClass_of_methodNamed B.named
  have hlocks := B.notSynchronized
  have hS : va_S (am_A a) s.heap s.heap [] := va_S.rf
  have hl := lv_entry ([.ref (a 0), .int o1]) (n := 2) (Nat.le_of_ble_eq_true rfl)
  rw [lg_entry_eq]
  generalize (lg_sl ([.ref (a 0), .int o1]) ++ List.replicate (2 - (lg_sl ([.ref (a 0), .int o1])).length) Slot.unset).toArray = ls at hl ⊢
  have hl : lv_has ls 2 [(0, .ref (a 0)), (1, .int o1)] := hl
  have hB19 : ∀ (x1 : Int32) (y0 : Int32) (y1 : Int32) (u : q_St) (ls : Array Slot), lv_has ls 2 [(0, .ref (a 0)), (1, .int x1)] → fX11_wash_b19 N x1 y0 y1 u = some (r0, σ0) → ∀ (H : Heap) (locs : List Loc), va_P D vwCl (am_W a cI u) H → va_S (am_A a) s.heap H locs → W p l e (headSpec (Cond.code yX11_wash cX11_wash 2 none :: q_T) ({ frames := 0, cells := 0, slots := 0, locals := 0 } : Room)).room s m ([.ref (a 0), .int o1] : List Value).toArray below meth c H locs 0 0 (MQ below (q_Qv D vwCl (am_W a cI) (am_A a) σ0) ([.ref (a 0), .int o1] : List Value).toArray s 0 0 (am_A a)) (F0 m 19 ls [.int y0, .int y1, .ref (a 0)]) := by
    intro x1 y0 y1 u ls hl hF _ _ hP hS
    unfold fX11_wash_b19 at hF
    refine lv_isub hx hb dX11_wash_19 ?_
    refine pm_m_dirty hx hb hts hown hK hP fl_X11_267 hD hS hF dX11_wash_20 (fun u2 H locs hF hP hS => ?_)
    refine lv_aload_n hx hb dX11_wash_23 rfl (lv_at hl 0 rfl) ?_
    refine gm_m_isDirty hx hb hts hown hK hP fl_X11_134 dX11_wash_24 ?_
    refine lv_iload_n hx hb dX11_wash_27 rfl (lv_at hl 1 rfl) ?_
    refine lv_iconst (v := 0) hx hb dX11_wash_28 (by decide) ?_
    refine um_m_isDirty hx hb hK hP hD hS hF dX11_wash_29 (fun u3 H locs hF hP hS => ?_)
    exact sx_retv (Wd := (am_W a cI)) (σ := u3) hx hb hr hF hP hS hlocks dX11_wash_30
  unfold fX11_wash at hF
  refine lv_aload_n hx hb dX11_wash_0 rfl (lv_at hl 0 rfl) ?_
  refine lv_dup hx hb dX11_wash_1 rfl ?_
  refine gm_m_dirty hx hb hts hown hK hP fl_X11_267 dX11_wash_2 ?_
  refine lv_aload_n hx hb dX11_wash_5 rfl (lv_at hl 0 rfl) ?_
  refine gm_m_isDirty hx hb hts hown hK hP fl_X11_134 dX11_wash_6 ?_
  refine lv_iload_n hx hb dX11_wash_9 rfl (lv_at hl 1 rfl) ?_
  refine lm_m_isDirty hx hb hK hP hF dX11_wash_10 (fun v1 hF => ?_)
  refine sx_if_eq (tgt := 18) hx hb hF dX11_wash_11 (by decide) (fun hF => ?_) (fun hF => ?_)
  · refine lv_iconst (v := 0) hx hb dX11_wash_18 (by decide) ?_
    exact hB19 o1 0 (q_i u 25) u ls (lv_sub hl [0, 1] rfl) hF _ _ hP hS
  · refine lv_iconst (v := 1) hx hb dX11_wash_14 (by decide) ?_
    refine lv_goto (tgt := 19) hx hb dX11_wash_15 (by decide) ?_
    exact hB19 o1 1 (q_i u 25) u ls (lv_sub hl [0, 1] rfl) hF _ _ hP hS
set_option maxHeartbeats 4000000 in
set_option maxRecDepth 100000 in
theorem kt_X11_giveBlock {N : Nat} {l : Launch} {D : va_G} {a : Nat → Nat} {cI : Nat → ClassId} (hD : ∀ σ, va_D (am_A a) (am_W a cI σ)) {o1 : Int32} {u σ0 : q_St} {r0 : Unit} (hF : fX11_giveBlock N o1 u = some (r0, σ0)) : Met l yX11_giveBlock (Cond.code yX11_giveBlock cX11_giveBlock 2 none :: q_T) ({ frames := 2, cells := 0, slots := 0, locals := 42 } : Room) (q_P D vwCl (am_T cI) (am_W a cI) [.ref (a 0), .int o1] u) (q_Qv D vwCl (am_W a cI) (am_A a) σ0) 0 0 (am_A a) := by
  refine Met.ofW (cc := cX11_giveBlock) (maxL := 2) (ret := none) (by decide) rfl ?_
  intro p e s m args below meth c s₁ B hml hv
  obtain ⟨rfl, hP, hK⟩ := hv
  have hx := B.exec
  have hb := B.bytes
  have hr := B.returns
  have hts := q_ts (atoms_spec (ws := Cond.code yX11_giveBlock cX11_giveBlock 2 none :: q_T) B.pre)
  have hown : s.vm.findClass RX11 = some m.cls := findClass_of_methodNamed B.named
  have hlocks := B.notSynchronized
  have hS : va_S (am_A a) s.heap s.heap [] := va_S.rf
  have hl := lv_entry ([.ref (a 0), .int o1]) (n := 2) (Nat.le_of_ble_eq_true rfl)
  rw [lg_entry_eq]
  generalize (lg_sl ([.ref (a 0), .int o1]) ++ List.replicate (2 - (lg_sl ([.ref (a 0), .int o1])).length) Slot.unset).toArray = ls at hl ⊢
  have hl : lv_has ls 2 [(0, .ref (a 0)), (1, .int o1)] := hl
  unfold fX11_giveBlock at hF
  refine lv_aload_n hx hb dX11_giveBlock_0 rfl (lv_at hl 0 rfl) ?_
  refine gm_m_isUsed hx hb hts hown hK hP fl_X11_82 dX11_giveBlock_1 ?_
  refine lv_iload_n hx hb dX11_giveBlock_4 rfl (lv_at hl 1 rfl) ?_
  refine lv_iconst (v := 0) hx hb dX11_giveBlock_5 (by decide) ?_
  refine um_m_isUsed hx hb hK hP hD hS hF dX11_giveBlock_6 (fun u1 H locs hF hP hS => ?_)
  refine lv_aload_n hx hb dX11_giveBlock_7 rfl (lv_at hl 0 rfl) ?_
  refine lv_iload_n hx hb dX11_giveBlock_8 rfl (lv_at hl 1 rfl) ?_
  obtain ⟨r2, u3, hc4, hF⟩ := q_bnd_some hF
  refine sx_cv (Wd := (am_W a cI)) (σ1 := u3) (q_runV (Wd := (am_W a cI)) (σ := u1) (q0 := 0) (ci := 11) (T := TX11) (N := 72) (As := [.int o1]) (rest := []) hx hb hml hown hts hK hP (kt_X11_soilMap hD hc4) cw_X11_300 rfl rfl ⟨Nat.le_of_ble_eq_true rfl, Nat.le_of_ble_eq_true rfl⟩ rfl rfl rfl hl.1 rfl (Nat.le_of_ble_eq_true rfl) dX11_giveBlock_9) hS (fun H locs hP hS => ?_)
  refine lv_aload_n hx hb dX11_giveBlock_12 rfl (lv_at hl 0 rfl) ?_
  refine lv_iload_n hx hb dX11_giveBlock_13 rfl (lv_at hl 1 rfl) ?_
  obtain ⟨r5, u6, hc7, hF⟩ := q_bnd_some hF
  refine sx_cv (Wd := (am_W a cI)) (σ1 := u6) (q_runV (Wd := (am_W a cI)) (σ := u3) (q0 := 0) (ci := 11) (T := TX11) (N := 72) (As := [.int o1]) (rest := []) hx hb hml hown hts hK hP (kt_X11_wash hD hc7) cw_X11_303 rfl rfl ⟨Nat.le_of_ble_eq_true rfl, Nat.le_of_ble_eq_true rfl⟩ rfl rfl rfl hl.1 rfl (Nat.le_of_ble_eq_true rfl) dX11_giveBlock_14) hS (fun H locs hP hS => ?_)
  exact sx_retv (Wd := (am_W a cI)) (σ := u6) hx hb hr hF hP hS hlocks dX11_giveBlock_17
set_option maxHeartbeats 4000000 in
set_option maxRecDepth 100000 in
theorem kt_X11_tellsSome {N : Nat} {l : Launch} {D : va_G} {a : Nat → Nat} {cI : Nat → ClassId} (hD : ∀ σ, va_D (am_A a) (am_W a cI σ)) {o1 : Int32} {o2 : Int32} {u σ0 : q_St} {r0 : Int32} (hF : fX11_tellsSome N o1 o2 u = some (r0, σ0)) : Met l yX11_tellsSome (Cond.code yX11_tellsSome cX11_tellsSome 5 (some .boolean) :: q_T) ({ frames := 0, cells := 0, slots := 0, locals := 0 } : Room) (q_P D vwCl (am_T cI) (am_W a cI) [.ref (a 0), .int o1, .int o2] u) (q_Qi D vwCl (am_W a cI) (am_A a) r0 σ0) 0 0 (am_A a) := by
  refine Met.ofW (cc := cX11_tellsSome) (maxL := 5) (ret := (some .boolean)) (by decide) rfl ?_
  intro p e s m args below meth c s₁ B hml hv
  obtain ⟨rfl, hP, hK⟩ := hv
  have hx := B.exec
  have hb := B.bytes
  have hr := B.returns
  have hts := q_ts (atoms_spec (ws := Cond.code yX11_tellsSome cX11_tellsSome 5 (some .boolean) :: q_T) B.pre)
  have hown : s.vm.findClass RX11 = some m.cls := findClass_of_methodNamed B.named
  have hlocks := B.notSynchronized
  have hS : va_S (am_A a) s.heap s.heap [] := va_S.rf
  have hl := lv_entry ([.ref (a 0), .int o1, .int o2]) (n := 5) (Nat.le_of_ble_eq_true rfl)
  rw [lg_entry_eq]
  generalize (lg_sl ([.ref (a 0), .int o1, .int o2]) ++ List.replicate (5 - (lg_sl ([.ref (a 0), .int o1, .int o2])).length) Slot.unset).toArray = ls at hl ⊢
  have hl : lv_has ls 5 [(0, .ref (a 0)), (1, .int o1), (2, .int o2)] := hl
  have hB22 : ∀ (n : Nat) (x1 : Int32) (x3 : Int32) (x4 : Int32) (u : q_St) (ls : Array Slot), lv_has ls 5 [(0, .ref (a 0)), (1, .int x1), (3, .int x3), (4, .int x4)] → q_lp (fX11_tellsSome_b22 N) (fun _ _ _ _ => none) n x1 x3 x4 u = some (r0, σ0) → ∀ (H : Heap) (locs : List Loc), va_P D vwCl (am_W a cI u) H → va_S (am_A a) s.heap H locs → W p l e (headSpec (Cond.code yX11_tellsSome cX11_tellsSome 5 (some .boolean) :: q_T) ({ frames := 0, cells := 0, slots := 0, locals := 0 } : Room)).room s m ([.ref (a 0), .int o1, .int o2] : List Value).toArray below meth c H locs 0 0 (MQ below (q_Qi D vwCl (am_W a cI) (am_A a) r0 σ0) ([.ref (a 0), .int o1, .int o2] : List Value).toArray s 0 0 (am_A a)) (F0 m 22 ls []) := by
    intro n
    induction n with
    | zero => intro x1 x3 x4 u ls hl hF; exact absurd (show (none : Option (Int32 × q_St)) = some _ from hF) (fun h => nomatch h)
    | succ n hi22 =>
      intro x1 x3 x4 u ls hl hF _ _ hP hS
      obtain ⟨ih22, hih⟩ : ∃ q, q = q_lp (fX11_tellsSome_b22 N) (fun _ _ _ _ => none) n := ⟨_, rfl⟩
      rw [← hih] at hi22
      have hF : fX11_tellsSome_b22 N (q_lp (fX11_tellsSome_b22 N) (fun _ _ _ _ => none) n) x1 x3 x4 u = some (r0, σ0) := hF
      rw [← hih] at hF
      clear hih
      unfold fX11_tellsSome_b22 at hF
      refine lv_iload hx hb dX11_tellsSome_22 (lv_at hl 3 rfl) ?_
      refine lv_iload_n hx hb dX11_tellsSome_24 rfl (lv_at hl 2 rfl) ?_
      refine lv_bipush (v := 32) hx hb dX11_tellsSome_25 (by decide) ?_
      refine lv_iadd hx hb dX11_tellsSome_27 ?_
      refine sx_icmp_ge (tgt := 56) hx hb hF dX11_tellsSome_28 (by decide) (fun hF => ?_) (fun hF => ?_)
      · refine lv_iconst (v := 0) hx hb dX11_tellsSome_56 (by decide) ?_
        exact sx_retz (Wd := (am_W a cI)) (σ := u) hx hb hr (by decide) hF hP hS hlocks dX11_tellsSome_57
      · refine lv_aload_n hx hb dX11_tellsSome_31 rfl (lv_at hl 0 rfl) ?_
        refine gm_m_piece hx hb hts hown hK hP fl_X11_53 dX11_tellsSome_32 ?_
        refine lv_sipush (v := 1068) hx hb dX11_tellsSome_35 (by decide) ?_
        refine lv_iload_n hx hb dX11_tellsSome_38 rfl (lv_at hl 1 rfl) ?_
        refine lv_imul hx hb dX11_tellsSome_39 ?_
        refine lv_iload hx hb dX11_tellsSome_40 (lv_at hl 3 rfl) ?_
        refine lv_iadd hx hb dX11_tellsSome_42 ?_
        refine lm_m_piece hx hb hK hP hF dX11_tellsSome_43 (fun v1 hF => ?_)
        refine lv_iconst (v := (-1)) hx hb dX11_tellsSome_44 (by decide) ?_
        refine sx_icmp_eq (tgt := 50) hx hb hF dX11_tellsSome_45 (by decide) (fun hF => ?_) (fun hF => ?_)
        · refine sx_iinc (d := 1) (k := 3) (lv2 := [(0, .ref (a 0)), (1, .int x1), (3, .int x3)]) hx hb hF dX11_tellsSome_50 hl rfl (by decide) (by decide) rfl (fun v2 hF ls hl => ?_)
          refine lv_goto (tgt := 22) hx hb dX11_tellsSome_53 (by decide) ?_
          exact hi22 x1 x3 v2 u ls (lv_sub hl [1, 2, 3, 0] rfl) hF _ _ hP hS
        · refine lv_iconst (v := 1) hx hb dX11_tellsSome_48 (by decide) ?_
          exact sx_retz (Wd := (am_W a cI)) (σ := u) hx hb hr (by decide) hF hP hS hlocks dX11_tellsSome_49
  have hB18 : ∀ (x1 : Int32) (y0 : Int32) (u : q_St) (ls : Array Slot), lv_has ls 5 [(0, .ref (a 0)), (1, .int x1)] → fX11_tellsSome_b18 N x1 y0 u = some (r0, σ0) → ∀ (H : Heap) (locs : List Loc), va_P D vwCl (am_W a cI u) H → va_S (am_A a) s.heap H locs → W p l e (headSpec (Cond.code yX11_tellsSome cX11_tellsSome 5 (some .boolean) :: q_T) ({ frames := 0, cells := 0, slots := 0, locals := 0 } : Room)).room s m ([.ref (a 0), .int o1, .int o2] : List Value).toArray below meth c H locs 0 0 (MQ below (q_Qi D vwCl (am_W a cI) (am_A a) r0 σ0) ([.ref (a 0), .int o1, .int o2] : List Value).toArray s 0 0 (am_A a)) (F0 m 18 ls [.int y0]) := by
    intro x1 y0 u ls hl hF _ _ hP hS
    unfold fX11_tellsSome_b18 at hF
    refine lv_istore_n (lv' := [(3, .int y0), (0, .ref (a 0)), (1, .int x1)]) hx hb dX11_tellsSome_18 rfl hl (by decide) rfl (fun ls hl => ?_)
    refine lv_iload_n hx hb dX11_tellsSome_19 rfl (lv_at hl 0 rfl) ?_
    refine lv_istore (lv' := [(4, .int y0), (3, .int y0), (0, .ref (a 0)), (1, .int x1)]) hx hb dX11_tellsSome_20 hl (by decide) rfl (fun ls hl => ?_)
    exact hB22 N x1 y0 y0 u ls (lv_sub hl [2, 3, 1, 0] rfl) hF _ _ hP hS
  unfold fX11_tellsSome at hF
  refine lv_iload_n hx hb dX11_tellsSome_0 rfl (lv_at hl 2 rfl) ?_
  refine sx_if_ne (tgt := 9) hx hb hF dX11_tellsSome_1 (by decide) (fun hF => ?_) (fun hF => ?_)
  · refine lv_bipush (v := 44) hx hb dX11_tellsSome_9 (by decide) ?_
    refine lv_bipush (v := 32) hx hb dX11_tellsSome_11 (by decide) ?_
    refine lv_iload_n hx hb dX11_tellsSome_13 rfl (lv_at hl 2 rfl) ?_
    refine lv_iconst (v := 2) hx hb dX11_tellsSome_14 (by decide) ?_
    refine lv_isub hx hb dX11_tellsSome_15 ?_
    refine lv_imul hx hb dX11_tellsSome_16 ?_
    refine lv_iadd hx hb dX11_tellsSome_17 ?_
    exact hB18 o1 (44 + (32 * (o2 - 2))) u ls (lv_sub hl [0, 1] rfl) hF _ _ hP hS
  · refine lv_bipush (v := 12) hx hb dX11_tellsSome_4 (by decide) ?_
    refine lv_goto (tgt := 18) hx hb dX11_tellsSome_6 (by decide) ?_
    exact hB18 o1 12 u ls (lv_sub hl [0, 1] rfl) hF _ _ hP hS
set_option maxHeartbeats 4000000 in
set_option maxRecDepth 100000 in
theorem kt_X11_prune {N : Nat} {l : Launch} {D : va_G} {a : Nat → Nat} {cI : Nat → ClassId} (hD : ∀ σ, va_D (am_A a) (am_W a cI σ)) {o1 : Int32} {u σ0 : q_St} {r0 : Int32} (hF : fX11_prune N o1 u = some (r0, σ0)) : Met l yX11_prune (Cond.code yX11_prune cX11_prune 6 (some .int) :: q_T) ({ frames := 3, cells := 0, slots := 0, locals := 64 } : Room) (q_P D vwCl (am_T cI) (am_W a cI) [.ref (a 0), .int o1] u) (q_Qi D vwCl (am_W a cI) (am_A a) r0 σ0) 0 0 (am_A a) := by
  refine Met.ofW (cc := cX11_prune) (maxL := 6) (ret := (some .int)) (by decide) rfl ?_
  intro p e s m args below meth c s₁ B hml hv
  obtain ⟨rfl, hP, hK⟩ := hv
  have hx := B.exec
  have hb := B.bytes
  have hr := B.returns
  have hts := q_ts (atoms_spec (ws := Cond.code yX11_prune cX11_prune 6 (some .int) :: q_T) B.pre)
  have hown : s.vm.findClass RX11 = some m.cls := findClass_of_methodNamed B.named
  have hlocks := B.notSynchronized
  have hS : va_S (am_A a) s.heap s.heap [] := va_S.rf
  have hl := lv_entry ([.ref (a 0), .int o1]) (n := 6) (Nat.le_of_ble_eq_true rfl)
  rw [lg_entry_eq]
  generalize (lg_sl ([.ref (a 0), .int o1]) ++ List.replicate (6 - (lg_sl ([.ref (a 0), .int o1])).length) Slot.unset).toArray = ls at hl ⊢
  have hl : lv_has ls 6 [(0, .ref (a 0)), (1, .int o1)] := hl
  have hB101 : ∀ (ih7 : Int32 → Int32 → Int32 → Int32 → q_St → Option (Int32 × q_St)) (hi7 : ∀ (x1 : Int32) (x2 : Int32) (x3 : Int32) (x4 : Int32) (u : q_St) (ls : Array Slot), lv_has ls 6 [(0, .ref (a 0)), (1, .int x1), (2, .int x2), (3, .int x3), (4, .int x4)] → ih7 x1 x2 x3 x4 u = some (r0, σ0) → ∀ (H : Heap) (locs : List Loc), va_P D vwCl (am_W a cI u) H → va_S (am_A a) s.heap H locs → W p l e (headSpec (Cond.code yX11_prune cX11_prune 6 (some .int) :: q_T) ({ frames := 3, cells := 0, slots := 0, locals := 64 } : Room)).room s m ([.ref (a 0), .int o1] : List Value).toArray below meth c H locs 0 0 (MQ below (q_Qi D vwCl (am_W a cI) (am_A a) r0 σ0) ([.ref (a 0), .int o1] : List Value).toArray s 0 0 (am_A a)) (F0 m 7 ls [])), ∀ (x1 : Int32) (x2 : Int32) (x3 : Int32) (x4 : Int32) (u : q_St) (ls : Array Slot), lv_has ls 6 [(0, .ref (a 0)), (1, .int x1), (2, .int x2), (3, .int x3), (4, .int x4)] → fX11_prune_b101 N ih7 x1 x2 x3 x4 u = some (r0, σ0) → ∀ (H : Heap) (locs : List Loc), va_P D vwCl (am_W a cI u) H → va_S (am_A a) s.heap H locs → W p l e (headSpec (Cond.code yX11_prune cX11_prune 6 (some .int) :: q_T) ({ frames := 3, cells := 0, slots := 0, locals := 64 } : Room)).room s m ([.ref (a 0), .int o1] : List Value).toArray below meth c H locs 0 0 (MQ below (q_Qi D vwCl (am_W a cI) (am_A a) r0 σ0) ([.ref (a 0), .int o1] : List Value).toArray s 0 0 (am_A a)) (F0 m 101 ls []) := by
    intro ih7 hi7 x1 x2 x3 x4 u ls hl hF _ _ hP hS
    unfold fX11_prune_b101 at hF
    refine sx_iinc (d := 1) (k := 4) (lv2 := [(0, .ref (a 0)), (1, .int x1), (2, .int x2), (3, .int x3)]) hx hb hF dX11_prune_101 hl rfl (by decide) (by decide) rfl (fun v10 hF ls hl => ?_)
    refine lv_goto (tgt := 7) hx hb dX11_prune_104 (by decide) ?_
    exact hi7 x1 x2 x3 v10 u ls (lv_sub hl [1, 2, 3, 4, 0] rfl) hF _ _ hP hS
  have hB68 : ∀ (ih7 : Int32 → Int32 → Int32 → Int32 → q_St → Option (Int32 × q_St)) (hi7 : ∀ (x1 : Int32) (x2 : Int32) (x3 : Int32) (x4 : Int32) (u : q_St) (ls : Array Slot), lv_has ls 6 [(0, .ref (a 0)), (1, .int x1), (2, .int x2), (3, .int x3), (4, .int x4)] → ih7 x1 x2 x3 x4 u = some (r0, σ0) → ∀ (H : Heap) (locs : List Loc), va_P D vwCl (am_W a cI u) H → va_S (am_A a) s.heap H locs → W p l e (headSpec (Cond.code yX11_prune cX11_prune 6 (some .int) :: q_T) ({ frames := 3, cells := 0, slots := 0, locals := 64 } : Room)).room s m ([.ref (a 0), .int o1] : List Value).toArray below meth c H locs 0 0 (MQ below (q_Qi D vwCl (am_W a cI) (am_A a) r0 σ0) ([.ref (a 0), .int o1] : List Value).toArray s 0 0 (am_A a)) (F0 m 7 ls [])), ∀ (x1 : Int32) (x2 : Int32) (x4 : Int32) (y0 : Int32) (u : q_St) (ls : Array Slot), lv_has ls 6 [(0, .ref (a 0)), (1, .int x1), (2, .int x2), (4, .int x4)] → fX11_prune_b68 N ih7 x1 x2 x4 y0 u = some (r0, σ0) → ∀ (H : Heap) (locs : List Loc), va_P D vwCl (am_W a cI u) H → va_S (am_A a) s.heap H locs → W p l e (headSpec (Cond.code yX11_prune cX11_prune 6 (some .int) :: q_T) ({ frames := 3, cells := 0, slots := 0, locals := 64 } : Room)).room s m ([.ref (a 0), .int o1] : List Value).toArray below meth c H locs 0 0 (MQ below (q_Qi D vwCl (am_W a cI) (am_A a) r0 σ0) ([.ref (a 0), .int o1] : List Value).toArray s 0 0 (am_A a)) (F0 m 68 ls [.int y0]) := by
    intro ih7 hi7 x1 x2 x4 y0 u ls hl hF _ _ hP hS
    unfold fX11_prune_b68 at hF
    refine lv_istore_n (lv' := [(3, .int y0), (0, .ref (a 0)), (1, .int x1), (2, .int x2), (4, .int x4)]) hx hb dX11_prune_68 rfl hl (by decide) rfl (fun ls hl => ?_)
    refine lv_goto (tgt := 101) hx hb dX11_prune_69 (by decide) ?_
    exact hB101 ih7 hi7 x1 x2 y0 x4 u ls (lv_sub hl [1, 2, 3, 0, 4] rfl) hF _ _ hP hS
  have hB63 : ∀ (ih7 : Int32 → Int32 → Int32 → Int32 → q_St → Option (Int32 × q_St)) (hi7 : ∀ (x1 : Int32) (x2 : Int32) (x3 : Int32) (x4 : Int32) (u : q_St) (ls : Array Slot), lv_has ls 6 [(0, .ref (a 0)), (1, .int x1), (2, .int x2), (3, .int x3), (4, .int x4)] → ih7 x1 x2 x3 x4 u = some (r0, σ0) → ∀ (H : Heap) (locs : List Loc), va_P D vwCl (am_W a cI u) H → va_S (am_A a) s.heap H locs → W p l e (headSpec (Cond.code yX11_prune cX11_prune 6 (some .int) :: q_T) ({ frames := 3, cells := 0, slots := 0, locals := 64 } : Room)).room s m ([.ref (a 0), .int o1] : List Value).toArray below meth c H locs 0 0 (MQ below (q_Qi D vwCl (am_W a cI) (am_A a) r0 σ0) ([.ref (a 0), .int o1] : List Value).toArray s 0 0 (am_A a)) (F0 m 7 ls [])), ∀ (x1 : Int32) (x2 : Int32) (x4 : Int32) (u : q_St) (ls : Array Slot), lv_has ls 6 [(0, .ref (a 0)), (1, .int x1), (2, .int x2), (4, .int x4)] → fX11_prune_b63 N ih7 x1 x2 x4 u = some (r0, σ0) → ∀ (H : Heap) (locs : List Loc), va_P D vwCl (am_W a cI u) H → va_S (am_A a) s.heap H locs → W p l e (headSpec (Cond.code yX11_prune cX11_prune 6 (some .int) :: q_T) ({ frames := 3, cells := 0, slots := 0, locals := 64 } : Room)).room s m ([.ref (a 0), .int o1] : List Value).toArray below meth c H locs 0 0 (MQ below (q_Qi D vwCl (am_W a cI) (am_A a) r0 σ0) ([.ref (a 0), .int o1] : List Value).toArray s 0 0 (am_A a)) (F0 m 63 ls []) := by
    intro ih7 hi7 x1 x2 x4 u ls hl hF _ _ hP hS
    unfold fX11_prune_b63 at hF
    refine lv_iconst (v := 1) hx hb dX11_prune_63 (by decide) ?_
    refine lv_goto (tgt := 68) hx hb dX11_prune_64 (by decide) ?_
    exact hB68 ih7 hi7 x1 x2 x4 1 u ls (lv_sub hl [0, 1, 2, 3] rfl) hF _ _ hP hS
  have hB7 : ∀ (n : Nat) (x1 : Int32) (x2 : Int32) (x3 : Int32) (x4 : Int32) (u : q_St) (ls : Array Slot), lv_has ls 6 [(0, .ref (a 0)), (1, .int x1), (2, .int x2), (3, .int x3), (4, .int x4)] → q_lp (fX11_prune_b7 N) (fun _ _ _ _ _ => none) n x1 x2 x3 x4 u = some (r0, σ0) → ∀ (H : Heap) (locs : List Loc), va_P D vwCl (am_W a cI u) H → va_S (am_A a) s.heap H locs → W p l e (headSpec (Cond.code yX11_prune cX11_prune 6 (some .int) :: q_T) ({ frames := 3, cells := 0, slots := 0, locals := 64 } : Room)).room s m ([.ref (a 0), .int o1] : List Value).toArray below meth c H locs 0 0 (MQ below (q_Qi D vwCl (am_W a cI) (am_A a) r0 σ0) ([.ref (a 0), .int o1] : List Value).toArray s 0 0 (am_A a)) (F0 m 7 ls []) := by
    intro n
    induction n with
    | zero => intro x1 x2 x3 x4 u ls hl hF; exact absurd (show (none : Option (Int32 × q_St)) = some _ from hF) (fun h => nomatch h)
    | succ n hi7 =>
      intro x1 x2 x3 x4 u ls hl hF _ _ hP hS
      obtain ⟨ih7, hih⟩ : ∃ q, q = q_lp (fX11_prune_b7 N) (fun _ _ _ _ _ => none) n := ⟨_, rfl⟩
      rw [← hih] at hi7
      have hF : fX11_prune_b7 N (q_lp (fX11_prune_b7 N) (fun _ _ _ _ _ => none) n) x1 x2 x3 x4 u = some (r0, σ0) := hF
      rw [← hih] at hF
      clear hih
      unfold fX11_prune_b7 at hF
      refine lv_iload hx hb dX11_prune_7 (lv_at hl 4 rfl) ?_
      refine lv_bipush (v := 34) hx hb dX11_prune_9 (by decide) ?_
      refine sx_icmp_ge (tgt := 107) hx hb hF dX11_prune_11 (by decide) (fun hF => ?_) (fun hF => ?_)
      · refine lv_aload_n hx hb dX11_prune_107 rfl (lv_at hl 0 rfl) ?_
        refine gm_m_index hx hb hts hown hK hP fl_X11_56 dX11_prune_108 ?_
        refine lv_bipush (v := 34) hx hb dX11_prune_111 (by decide) ?_
        refine lv_iload_n hx hb dX11_prune_113 rfl (lv_at hl 1 rfl) ?_
        refine lv_imul hx hb dX11_prune_114 ?_
        refine lv_iconst (v := 1) hx hb dX11_prune_115 (by decide) ?_
        refine lv_iadd hx hb dX11_prune_116 ?_
        refine lm_m_index hx hb hK hP hF dX11_prune_117 (fun v1 hF => ?_)
        refine lv_istore (lv' := [(4, .int v1), (0, .ref (a 0)), (1, .int x1), (2, .int x2), (3, .int x3)]) hx hb dX11_prune_118 hl (by decide) rfl (fun ls hl => ?_)
        refine lv_iload hx hb dX11_prune_120 (lv_at hl 0 rfl) ?_
        refine lv_iconst (v := (-1)) hx hb dX11_prune_122 (by decide) ?_
        refine sx_icmp_eq (tgt := 130) hx hb hF dX11_prune_123 (by decide) (fun hF => ?_) (fun hF => ?_)
        · refine lv_iload_n hx hb dX11_prune_130 rfl (lv_at hl 3 rfl) ?_
          exact sx_reti (Wd := (am_W a cI)) (σ := u) hx hb hr hF hP hS hlocks dX11_prune_131
        · refine lv_iload_n hx hb dX11_prune_126 rfl (lv_at hl 4 rfl) ?_
          refine sx_if_eq (tgt := 132) hx hb hF dX11_prune_127 (by decide) (fun hF => ?_) (fun hF => ?_)
          · refine lv_aload_n hx hb dX11_prune_132 rfl (lv_at hl 1 rfl) ?_
            refine lv_iload_n hx hb dX11_prune_133 rfl (lv_at hl 2 rfl) ?_
            obtain ⟨r2, u3, hc4, hF⟩ := q_bnd_some hF
            refine sx_cv (Wd := (am_W a cI)) (σ1 := u3) (q_runV (Wd := (am_W a cI)) (σ := u) (q0 := 0) (ci := 11) (T := TX11) (N := 72) (As := [.int x1]) (rest := []) hx hb hml hown hts hK hP (kt_X11_soilNode hD hc4) cw_X11_324 rfl rfl ⟨Nat.le_of_ble_eq_true rfl, Nat.le_of_ble_eq_true rfl⟩ rfl rfl rfl hl.1 rfl (Nat.le_of_ble_eq_true rfl) dX11_prune_134) hS (fun H locs hP hS => ?_)
            refine lv_aload_n hx hb dX11_prune_137 rfl (lv_at hl 1 rfl) ?_
            refine gm_m_index hx hb hts hown hK hP fl_X11_56 dX11_prune_138 ?_
            refine lv_bipush (v := 34) hx hb dX11_prune_141 (by decide) ?_
            refine lv_iload_n hx hb dX11_prune_143 rfl (lv_at hl 2 rfl) ?_
            refine lv_imul hx hb dX11_prune_144 ?_
            refine lv_iconst (v := 1) hx hb dX11_prune_145 (by decide) ?_
            refine lv_iadd hx hb dX11_prune_146 ?_
            refine lv_iconst (v := (-1)) hx hb dX11_prune_147 (by decide) ?_
            refine um_m_index hx hb hK hP hD hS hF dX11_prune_148 (fun u5 H locs hF hP hS => ?_)
            refine lv_aload_n hx hb dX11_prune_149 rfl (lv_at hl 1 rfl) ?_
            refine lv_iload hx hb dX11_prune_150 (lv_at hl 0 rfl) ?_
            obtain ⟨r6, u7, hc8, hF⟩ := q_bnd_some hF
            refine sx_cv (Wd := (am_W a cI)) (σ1 := u7) (q_runV (Wd := (am_W a cI)) (σ := u5) (q0 := 0) (ci := 11) (T := TX11) (N := 72) (As := [.int v1]) (rest := []) hx hb hml hown hts hK hP (kt_X11_giveBlock hD hc8) cw_X11_434 rfl rfl ⟨Nat.le_of_ble_eq_true rfl, Nat.le_of_ble_eq_true rfl⟩ rfl rfl rfl hl.1 rfl (Nat.le_of_ble_eq_true rfl) dX11_prune_152) hS (fun H locs hP hS => ?_)
            refine lv_iload_n hx hb dX11_prune_155 rfl (lv_at hl 3 rfl) ?_
            refine lv_iconst (v := 1) hx hb dX11_prune_156 (by decide) ?_
            refine lv_iadd hx hb dX11_prune_157 ?_
            exact sx_reti (Wd := (am_W a cI)) (σ := u7) hx hb hr hF hP hS hlocks dX11_prune_158
          · refine lv_iload_n hx hb dX11_prune_130 rfl (lv_at hl 3 rfl) ?_
            exact sx_reti (Wd := (am_W a cI)) (σ := u) hx hb hr hF hP hS hlocks dX11_prune_131
      · refine lv_aload_n hx hb dX11_prune_14 rfl (lv_at hl 0 rfl) ?_
        refine gm_m_index hx hb hts hown hK hP fl_X11_56 dX11_prune_15 ?_
        refine lv_bipush (v := 34) hx hb dX11_prune_18 (by decide) ?_
        refine lv_iload_n hx hb dX11_prune_20 rfl (lv_at hl 1 rfl) ?_
        refine lv_imul hx hb dX11_prune_21 ?_
        refine lv_iload hx hb dX11_prune_22 (lv_at hl 4 rfl) ?_
        refine lv_iadd hx hb dX11_prune_24 ?_
        refine lm_m_index hx hb hK hP hF dX11_prune_25 (fun v9 hF => ?_)
        refine lv_istore (lv' := [(5, .int v9), (0, .ref (a 0)), (1, .int x1), (2, .int x2), (3, .int x3), (4, .int x4)]) hx hb dX11_prune_26 hl (by decide) rfl (fun ls hl => ?_)
        refine lv_iload hx hb dX11_prune_28 (lv_at hl 5 rfl) ?_
        refine lv_iconst (v := 1) hx hb dX11_prune_30 (by decide) ?_
        refine sx_icmp_eq (tgt := 101) hx hb hF dX11_prune_31 (by decide) (fun hF => ?_) (fun hF => ?_)
        · exact hB101 ih7 hi7 x1 x2 x3 x4 u ls (lv_sub hl [1, 2, 3, 4, 5] rfl) hF _ _ hP hS
        · refine lv_iload hx hb dX11_prune_34 (lv_at hl 0 rfl) ?_
          refine lv_iconst (v := (-1)) hx hb dX11_prune_36 (by decide) ?_
          refine sx_icmp_ne (tgt := 43) hx hb hF dX11_prune_37 (by decide) (fun hF => ?_) (fun hF => ?_)
          · refine lv_aload_n hx hb dX11_prune_43 rfl (lv_at hl 1 rfl) ?_
            refine lv_iload_n hx hb dX11_prune_44 rfl (lv_at hl 2 rfl) ?_
            refine lv_iload hx hb dX11_prune_45 (lv_at hl 5 rfl) ?_
            obtain ⟨r11, u12, hc13, hF⟩ := q_bnd_some hF
            refine sx_ci (Wd := (am_W a cI)) (σ1 := u12) (q_runV (Wd := (am_W a cI)) (σ := u) (q0 := 0) (ci := 11) (T := TX11) (N := 72) (As := [.int x1, .int x4]) (rest := []) hx hb hml hown hts hK hP (kt_X11_tellsSome hD hc13) cw_X11_440 rfl rfl ⟨Nat.le_of_ble_eq_true rfl, Nat.le_of_ble_eq_true rfl⟩ rfl rfl rfl hl.1 rfl (Nat.le_of_ble_eq_true rfl) dX11_prune_47) hS (fun H locs hP hS => ?_)
            refine sx_if_eq (tgt := 72) hx hb hF dX11_prune_50 (by decide) (fun hF => ?_) (fun hF => ?_)
            · refine lv_aload_n hx hb dX11_prune_72 rfl (lv_at hl 1 rfl) ?_
              refine lv_iload_n hx hb dX11_prune_73 rfl (lv_at hl 2 rfl) ?_
              refine lv_iload hx hb dX11_prune_74 (lv_at hl 5 rfl) ?_
              obtain ⟨r14, u15, hc16, hF⟩ := q_bnd_some hF
              refine sx_cv (Wd := (am_W a cI)) (σ1 := u15) (q_runV (Wd := (am_W a cI)) (σ := u12) (q0 := 0) (ci := 11) (T := TX11) (N := 72) (As := [.int x1, .int x4]) (rest := []) hx hb hml hown hts hK hP (kt_X11_soilTeller hD hc16) cw_X11_415 rfl rfl ⟨Nat.le_of_ble_eq_true rfl, Nat.le_of_ble_eq_true rfl⟩ rfl rfl rfl hl.1 rfl (Nat.le_of_ble_eq_true rfl) dX11_prune_76) hS (fun H locs hP hS => ?_)
              refine lv_aload_n hx hb dX11_prune_79 rfl (lv_at hl 1 rfl) ?_
              refine gm_m_index hx hb hts hown hK hP fl_X11_56 dX11_prune_80 ?_
              refine lv_bipush (v := 34) hx hb dX11_prune_83 (by decide) ?_
              refine lv_iload_n hx hb dX11_prune_85 rfl (lv_at hl 2 rfl) ?_
              refine lv_imul hx hb dX11_prune_86 ?_
              refine lv_iload hx hb dX11_prune_87 (lv_at hl 5 rfl) ?_
              refine lv_iadd hx hb dX11_prune_89 ?_
              refine lv_iconst (v := (-1)) hx hb dX11_prune_90 (by decide) ?_
              refine um_m_index hx hb hK hP hD hS hF dX11_prune_91 (fun u17 H locs hF hP hS => ?_)
              refine lv_aload_n hx hb dX11_prune_92 rfl (lv_at hl 1 rfl) ?_
              refine lv_iload hx hb dX11_prune_93 (lv_at hl 0 rfl) ?_
              obtain ⟨r18, u19, hc20, hF⟩ := q_bnd_some hF
              refine sx_cv (Wd := (am_W a cI)) (σ1 := u19) (q_runV (Wd := (am_W a cI)) (σ := u17) (q0 := 0) (ci := 11) (T := TX11) (N := 72) (As := [.int v9]) (rest := []) hx hb hml hown hts hK hP (kt_X11_giveBlock hD hc20) cw_X11_434 rfl rfl ⟨Nat.le_of_ble_eq_true rfl, Nat.le_of_ble_eq_true rfl⟩ rfl rfl rfl hl.1 rfl (Nat.le_of_ble_eq_true rfl) dX11_prune_95) hS (fun H locs hP hS => ?_)
              refine sx_iinc (d := 1) (k := 3) (lv2 := [(5, .int v9), (0, .ref (a 0)), (1, .int x1), (3, .int x3), (4, .int x4)]) hx hb hF dX11_prune_98 hl rfl (by decide) (by decide) rfl (fun v21 hF ls hl => ?_)
              exact hB101 ih7 hi7 x1 v21 x3 x4 u19 ls (lv_sub hl [2, 3, 0, 4, 5] rfl) hF _ _ hP hS
            · refine lv_iload_n hx hb dX11_prune_53 rfl (lv_at hl 4 rfl) ?_
              refine sx_if_ne (tgt := 63) hx hb hF dX11_prune_54 (by decide) (fun hF => ?_) (fun hF => ?_)
              · exact hB63 ih7 hi7 x1 x2 x4 u12 ls (lv_sub hl [1, 2, 3, 5] rfl) hF _ _ hP hS
              · refine lv_iload hx hb dX11_prune_57 (lv_at hl 5 rfl) ?_
                refine lv_iconst (v := 1) hx hb dX11_prune_59 (by decide) ?_
                refine sx_icmp_le (tgt := 67) hx hb hF dX11_prune_60 (by decide) (fun hF => ?_) (fun hF => ?_)
                · refine lv_iconst (v := 0) hx hb dX11_prune_67 (by decide) ?_
                  exact hB68 ih7 hi7 x1 x2 x4 0 u12 ls (lv_sub hl [1, 2, 3, 5] rfl) hF _ _ hP hS
                · exact hB63 ih7 hi7 x1 x2 x4 u12 ls (lv_sub hl [1, 2, 3, 5] rfl) hF _ _ hP hS
          · refine lv_goto (tgt := 101) hx hb dX11_prune_40 (by decide) ?_
            exact hB101 ih7 hi7 x1 x2 x3 x4 u ls (lv_sub hl [1, 2, 3, 4, 5] rfl) hF _ _ hP hS
  unfold fX11_prune at hF
  refine lv_iconst (v := 0) hx hb dX11_prune_0 (by decide) ?_
  refine lv_istore_n (lv' := [(2, .int 0), (0, .ref (a 0)), (1, .int o1)]) hx hb dX11_prune_1 rfl hl (by decide) rfl (fun ls hl => ?_)
  refine lv_iconst (v := 0) hx hb dX11_prune_2 (by decide) ?_
  refine lv_istore_n (lv' := [(3, .int 0), (2, .int 0), (0, .ref (a 0)), (1, .int o1)]) hx hb dX11_prune_3 rfl hl (by decide) rfl (fun ls hl => ?_)
  refine lv_iconst (v := 0) hx hb dX11_prune_4 (by decide) ?_
  refine lv_istore (lv' := [(4, .int 0), (3, .int 0), (2, .int 0), (0, .ref (a 0)), (1, .int o1)]) hx hb dX11_prune_5 hl (by decide) rfl (fun ls hl => ?_)
  exact hB7 N o1 0 0 0 u ls (lv_sub hl [3, 4, 2, 1, 0] rfl) hF _ _ hP hS
set_option maxHeartbeats 4000000 in
set_option maxRecDepth 100000 in
theorem kt_X11_shrink {N : Nat} {l : Launch} {D : va_G} {a : Nat → Nat} {cI : Nat → ClassId} (hD : ∀ σ, va_D (am_A a) (am_W a cI σ)) {o1 : Int32} {o2 : Int32} {u σ0 : q_St} {r0 : Int32} (hF : fX11_shrink N o1 o2 u = some (r0, σ0)) : Met l yX11_shrink (Cond.code yX11_shrink cX11_shrink 7 (some .int) :: q_T) ({ frames := 4, cells := 0, slots := 0, locals := 89 } : Room) (q_P D vwCl (am_T cI) (am_W a cI) [.ref (a 0), .int o1, .int o2] u) (q_Qi D vwCl (am_W a cI) (am_A a) r0 σ0) 0 0 (am_A a) := by
  refine Met.ofW (cc := cX11_shrink) (maxL := 7) (ret := (some .int)) (by decide) rfl ?_
  intro p e s m args below meth c s₁ B hml hv
  obtain ⟨rfl, hP, hK⟩ := hv
  have hx := B.exec
  have hb := B.bytes
  have hr := B.returns
  have hts := q_ts (atoms_spec (ws := Cond.code yX11_shrink cX11_shrink 7 (some .int) :: q_T) B.pre)
  have hown : s.vm.findClass RX11 = some m.cls := findClass_of_methodNamed B.named
  have hlocks := B.notSynchronized
  have hS : va_S (am_A a) s.heap s.heap [] := va_S.rf
  have hl := lv_entry ([.ref (a 0), .int o1, .int o2]) (n := 7) (Nat.le_of_ble_eq_true rfl)
  rw [lg_entry_eq]
  generalize (lg_sl ([.ref (a 0), .int o1, .int o2]) ++ List.replicate (7 - (lg_sl ([.ref (a 0), .int o1, .int o2])).length) Slot.unset).toArray = ls at hl ⊢
  have hl : lv_has ls 7 [(0, .ref (a 0)), (1, .int o1), (2, .int o2)] := hl
  have hB97 : ∀ (ih5 : Int32 → Int32 → Int32 → q_St → Option (Int32 × q_St)) (hi5 : ∀ (x1 : Int32) (x3 : Int32) (x4 : Int32) (u : q_St) (ls : Array Slot), lv_has ls 7 [(0, .ref (a 0)), (1, .int x1), (3, .int x3), (4, .int x4)] → ih5 x1 x3 x4 u = some (r0, σ0) → ∀ (H : Heap) (locs : List Loc), va_P D vwCl (am_W a cI u) H → va_S (am_A a) s.heap H locs → W p l e (headSpec (Cond.code yX11_shrink cX11_shrink 7 (some .int) :: q_T) ({ frames := 4, cells := 0, slots := 0, locals := 89 } : Room)).room s m ([.ref (a 0), .int o1, .int o2] : List Value).toArray below meth c H locs 0 0 (MQ below (q_Qi D vwCl (am_W a cI) (am_A a) r0 σ0) ([.ref (a 0), .int o1, .int o2] : List Value).toArray s 0 0 (am_A a)) (F0 m 5 ls [])), ∀ (x1 : Int32) (x3 : Int32) (x4 : Int32) (u : q_St) (ls : Array Slot), lv_has ls 7 [(0, .ref (a 0)), (1, .int x1), (3, .int x3), (4, .int x4)] → fX11_shrink_b97 N ih5 x1 x3 x4 u = some (r0, σ0) → ∀ (H : Heap) (locs : List Loc), va_P D vwCl (am_W a cI u) H → va_S (am_A a) s.heap H locs → W p l e (headSpec (Cond.code yX11_shrink cX11_shrink 7 (some .int) :: q_T) ({ frames := 4, cells := 0, slots := 0, locals := 89 } : Room)).room s m ([.ref (a 0), .int o1, .int o2] : List Value).toArray below meth c H locs 0 0 (MQ below (q_Qi D vwCl (am_W a cI) (am_A a) r0 σ0) ([.ref (a 0), .int o1, .int o2] : List Value).toArray s 0 0 (am_A a)) (F0 m 97 ls []) := by
    intro ih5 hi5 x1 x3 x4 u ls hl hF _ _ hP hS
    unfold fX11_shrink_b97 at hF
    refine sx_iinc (d := 1) (k := 3) (lv2 := [(0, .ref (a 0)), (1, .int x1), (3, .int x3)]) hx hb hF dX11_shrink_97 hl rfl (by decide) (by decide) rfl (fun v17 hF ls hl => ?_)
    refine lv_goto (tgt := 5) hx hb dX11_shrink_100 (by decide) ?_
    exact hi5 x1 x3 v17 u ls (lv_sub hl [1, 2, 3, 0] rfl) hF _ _ hP hS
  have hB74 : ∀ (ih5 : Int32 → Int32 → Int32 → q_St → Option (Int32 × q_St)) (hi5 : ∀ (x1 : Int32) (x3 : Int32) (x4 : Int32) (u : q_St) (ls : Array Slot), lv_has ls 7 [(0, .ref (a 0)), (1, .int x1), (3, .int x3), (4, .int x4)] → ih5 x1 x3 x4 u = some (r0, σ0) → ∀ (H : Heap) (locs : List Loc), va_P D vwCl (am_W a cI u) H → va_S (am_A a) s.heap H locs → W p l e (headSpec (Cond.code yX11_shrink cX11_shrink 7 (some .int) :: q_T) ({ frames := 4, cells := 0, slots := 0, locals := 89 } : Room)).room s m ([.ref (a 0), .int o1, .int o2] : List Value).toArray below meth c H locs 0 0 (MQ below (q_Qi D vwCl (am_W a cI) (am_A a) r0 σ0) ([.ref (a 0), .int o1, .int o2] : List Value).toArray s 0 0 (am_A a)) (F0 m 5 ls [])), ∀ (x1 : Int32) (x3 : Int32) (x4 : Int32) (x5 : Int32) (u : q_St) (ls : Array Slot), lv_has ls 7 [(0, .ref (a 0)), (1, .int x1), (3, .int x3), (4, .int x4), (5, .int x5)] → fX11_shrink_b74 N ih5 x1 x3 x4 x5 u = some (r0, σ0) → ∀ (H : Heap) (locs : List Loc), va_P D vwCl (am_W a cI u) H → va_S (am_A a) s.heap H locs → W p l e (headSpec (Cond.code yX11_shrink cX11_shrink 7 (some .int) :: q_T) ({ frames := 4, cells := 0, slots := 0, locals := 89 } : Room)).room s m ([.ref (a 0), .int o1, .int o2] : List Value).toArray below meth c H locs 0 0 (MQ below (q_Qi D vwCl (am_W a cI) (am_A a) r0 σ0) ([.ref (a 0), .int o1, .int o2] : List Value).toArray s 0 0 (am_A a)) (F0 m 74 ls []) := by
    intro ih5 hi5 x1 x3 x4 x5 u ls hl hF _ _ hP hS
    unfold fX11_shrink_b74 at hF
    refine lv_aload_n hx hb dX11_shrink_74 rfl (lv_at hl 0 rfl) ?_
    refine gm_m_piece hx hb hts hown hK hP fl_X11_53 dX11_shrink_75 ?_
    refine lv_sipush (v := 1068) hx hb dX11_shrink_78 (by decide) ?_
    refine lv_iload_n hx hb dX11_shrink_81 rfl (lv_at hl 1 rfl) ?_
    refine lv_imul hx hb dX11_shrink_82 ?_
    refine lv_iload hx hb dX11_shrink_83 (lv_at hl 3 rfl) ?_
    refine lv_iadd hx hb dX11_shrink_85 ?_
    refine lv_iconst (v := (-1)) hx hb dX11_shrink_86 (by decide) ?_
    refine um_m_piece hx hb hK hP hD hS hF dX11_shrink_87 (fun u12 H locs hF hP hS => ?_)
    refine lv_aload_n hx hb dX11_shrink_88 rfl (lv_at hl 0 rfl) ?_
    refine lv_iload hx hb dX11_shrink_89 (lv_at hl 4 rfl) ?_
    obtain ⟨r13, u14, hc15, hF⟩ := q_bnd_some hF
    refine sx_cv (Wd := (am_W a cI)) (σ1 := u14) (q_runV (Wd := (am_W a cI)) (σ := u12) (q0 := 0) (ci := 11) (T := TX11) (N := 72) (As := [.int x5]) (rest := []) hx hb hml hown hts hK hP (kt_X11_giveBlock hD hc15) cw_X11_434 rfl rfl ⟨Nat.le_of_ble_eq_true rfl, Nat.le_of_ble_eq_true rfl⟩ rfl rfl rfl hl.1 rfl (Nat.le_of_ble_eq_true rfl) dX11_shrink_91) hS (fun H locs hP hS => ?_)
    refine sx_iinc (d := 1) (k := 2) (lv2 := [(0, .ref (a 0)), (1, .int x1), (4, .int x4), (5, .int x5)]) hx hb hF dX11_shrink_94 hl rfl (by decide) (by decide) rfl (fun v16 hF ls hl => ?_)
    exact hB97 ih5 hi5 x1 v16 x4 u14 ls (lv_sub hl [1, 2, 0, 3] rfl) hF _ _ hP hS
  have hB5 : ∀ (n : Nat) (x1 : Int32) (x3 : Int32) (x4 : Int32) (u : q_St) (ls : Array Slot), lv_has ls 7 [(0, .ref (a 0)), (1, .int x1), (3, .int x3), (4, .int x4)] → q_lp (fX11_shrink_b5 N) (fun _ _ _ _ => none) n x1 x3 x4 u = some (r0, σ0) → ∀ (H : Heap) (locs : List Loc), va_P D vwCl (am_W a cI u) H → va_S (am_A a) s.heap H locs → W p l e (headSpec (Cond.code yX11_shrink cX11_shrink 7 (some .int) :: q_T) ({ frames := 4, cells := 0, slots := 0, locals := 89 } : Room)).room s m ([.ref (a 0), .int o1, .int o2] : List Value).toArray below meth c H locs 0 0 (MQ below (q_Qi D vwCl (am_W a cI) (am_A a) r0 σ0) ([.ref (a 0), .int o1, .int o2] : List Value).toArray s 0 0 (am_A a)) (F0 m 5 ls []) := by
    intro n
    induction n with
    | zero => intro x1 x3 x4 u ls hl hF; exact absurd (show (none : Option (Int32 × q_St)) = some _ from hF) (fun h => nomatch h)
    | succ n hi5 =>
      intro x1 x3 x4 u ls hl hF _ _ hP hS
      obtain ⟨ih5, hih⟩ : ∃ q, q = q_lp (fX11_shrink_b5 N) (fun _ _ _ _ => none) n := ⟨_, rfl⟩
      rw [← hih] at hi5
      have hF : fX11_shrink_b5 N (q_lp (fX11_shrink_b5 N) (fun _ _ _ _ => none) n) x1 x3 x4 u = some (r0, σ0) := hF
      rw [← hih] at hF
      clear hih
      unfold fX11_shrink_b5 at hF
      refine lv_iload hx hb dX11_shrink_5 (lv_at hl 3 rfl) ?_
      refine lv_sipush (v := 1068) hx hb dX11_shrink_7 (by decide) ?_
      refine sx_icmp_ge (tgt := 103) hx hb hF dX11_shrink_10 (by decide) (fun hF => ?_) (fun hF => ?_)
      · refine lv_iload_n hx hb dX11_shrink_103 rfl (lv_at hl 2 rfl) ?_
        refine lv_aload_n hx hb dX11_shrink_104 rfl (lv_at hl 0 rfl) ?_
        refine lv_iload_n hx hb dX11_shrink_105 rfl (lv_at hl 1 rfl) ?_
        obtain ⟨r1, u2, hc3, hF⟩ := q_bnd_some hF
        refine sx_ci (Wd := (am_W a cI)) (σ1 := u2) (q_runV (Wd := (am_W a cI)) (σ := u) (q0 := 0) (ci := 11) (T := TX11) (N := 72) (As := [.int x1]) (rest := [.int x3]) hx hb hml hown hts hK hP (kt_X11_prune hD hc3) cw_X11_437 rfl rfl ⟨Nat.le_of_ble_eq_true rfl, Nat.le_of_ble_eq_true rfl⟩ rfl rfl rfl hl.1 rfl (Nat.le_of_ble_eq_true rfl) dX11_shrink_106) hS (fun H locs hP hS => ?_)
        refine lv_iadd hx hb dX11_shrink_109 ?_
        exact sx_reti (Wd := (am_W a cI)) (σ := u2) hx hb hr hF hP hS hlocks dX11_shrink_110
      · refine lv_aload_n hx hb dX11_shrink_13 rfl (lv_at hl 0 rfl) ?_
        refine gm_m_piece hx hb hts hown hK hP fl_X11_53 dX11_shrink_14 ?_
        refine lv_sipush (v := 1068) hx hb dX11_shrink_17 (by decide) ?_
        refine lv_iload_n hx hb dX11_shrink_20 rfl (lv_at hl 1 rfl) ?_
        refine lv_imul hx hb dX11_shrink_21 ?_
        refine lv_iload hx hb dX11_shrink_22 (lv_at hl 3 rfl) ?_
        refine lv_iadd hx hb dX11_shrink_24 ?_
        refine lm_m_piece hx hb hK hP hF dX11_shrink_25 (fun v4 hF => ?_)
        refine lv_istore (lv' := [(5, .int v4), (0, .ref (a 0)), (1, .int x1), (3, .int x3), (4, .int x4)]) hx hb dX11_shrink_26 hl (by decide) rfl (fun ls hl => ?_)
        refine lv_iload hx hb dX11_shrink_28 (lv_at hl 0 rfl) ?_
        refine lv_iconst (v := (-1)) hx hb dX11_shrink_30 (by decide) ?_
        refine sx_icmp_ne (tgt := 37) hx hb hF dX11_shrink_31 (by decide) (fun hF => ?_) (fun hF => ?_)
        · refine lv_iload hx hb dX11_shrink_37 (lv_at hl 4 rfl) ?_
          obtain ⟨r5, u6, hc7, hF⟩ := q_bnd_some hF
          refine sx_ci (Wd := (am_W a cI)) (σ1 := u6) (q_runS (Wd := (am_W a cI)) (σ := u) (As := [.int x4]) (rest := []) hx hb hml hown hts hK hP (kt_X11_indexOf hD hc7) cw_X11_412 rfl rfl ⟨Nat.le_of_ble_eq_true rfl, Nat.le_of_ble_eq_true rfl⟩ rfl hl.1 rfl (Nat.le_of_ble_eq_true rfl) dX11_shrink_39) hS (fun H locs hP hS => ?_)
          refine lv_istore (lv' := [(6, .int r5), (5, .int v4), (0, .ref (a 0)), (1, .int x1), (3, .int x3), (4, .int x4)]) hx hb dX11_shrink_42 hl (by decide) rfl (fun ls hl => ?_)
          refine lv_iload hx hb dX11_shrink_44 (lv_at hl 0 rfl) ?_
          refine lv_iconst (v := (-1)) hx hb dX11_shrink_46 (by decide) ?_
          refine sx_icmp_ne (tgt := 58) hx hb hF dX11_shrink_47 (by decide) (fun hF => ?_) (fun hF => ?_)
          · refine lv_aload_n hx hb dX11_shrink_58 rfl (lv_at hl 2 rfl) ?_
            refine lv_aload_n hx hb dX11_shrink_59 rfl (lv_at hl 2 rfl) ?_
            refine gm_m_index hx hb hts hown hK hP fl_X11_56 dX11_shrink_60 ?_
            refine lv_bipush (v := 34) hx hb dX11_shrink_63 (by decide) ?_
            refine lv_iload_n hx hb dX11_shrink_65 rfl (lv_at hl 3 rfl) ?_
            refine lv_imul hx hb dX11_shrink_66 ?_
            refine lv_iload hx hb dX11_shrink_67 (lv_at hl 0 rfl) ?_
            refine lv_iadd hx hb dX11_shrink_69 ?_
            refine lm_m_index hx hb hK hP hF dX11_shrink_70 (fun v8 hF => ?_)
            obtain ⟨r9, u10, hc11, hF⟩ := q_bnd_some hF
            refine sx_cv (Wd := (am_W a cI)) (σ1 := u10) (q_runV (Wd := (am_W a cI)) (σ := u6) (q0 := 0) (ci := 11) (T := TX11) (N := 72) (As := [.int v8]) (rest := []) hx hb hml hown hts hK hP (kt_X11_soil hD hc11) cw_X11_294 rfl rfl ⟨Nat.le_of_ble_eq_true rfl, Nat.le_of_ble_eq_true rfl⟩ rfl rfl rfl hl.1 rfl (Nat.le_of_ble_eq_true rfl) dX11_shrink_71) hS (fun H locs hP hS => ?_)
            exact hB74 ih5 hi5 x1 x3 x4 v4 u10 ls (lv_sub hl [2, 3, 4, 5, 1] rfl) hF _ _ hP hS
          · refine lv_aload_n hx hb dX11_shrink_50 rfl (lv_at hl 2 rfl) ?_
            refine lv_iload_n hx hb dX11_shrink_51 rfl (lv_at hl 3 rfl) ?_
            obtain ⟨r18, u19, hc20, hF⟩ := q_bnd_some hF
            refine sx_cv (Wd := (am_W a cI)) (σ1 := u19) (q_runV (Wd := (am_W a cI)) (σ := u6) (q0 := 0) (ci := 11) (T := TX11) (N := 72) (As := [.int x1]) (rest := []) hx hb hml hown hts hK hP (kt_X11_soilNode hD hc20) cw_X11_324 rfl rfl ⟨Nat.le_of_ble_eq_true rfl, Nat.le_of_ble_eq_true rfl⟩ rfl rfl rfl hl.1 rfl (Nat.le_of_ble_eq_true rfl) dX11_shrink_52) hS (fun H locs hP hS => ?_)
            refine lv_goto (tgt := 74) hx hb dX11_shrink_55 (by decide) ?_
            exact hB74 ih5 hi5 x1 x3 x4 v4 u19 ls (lv_sub hl [2, 3, 4, 5, 1] rfl) hF _ _ hP hS
        · refine lv_goto (tgt := 97) hx hb dX11_shrink_34 (by decide) ?_
          exact hB97 ih5 hi5 x1 x3 x4 u ls (lv_sub hl [1, 2, 3, 4] rfl) hF _ _ hP hS
  unfold fX11_shrink at hF
  refine lv_iconst (v := 0) hx hb dX11_shrink_0 (by decide) ?_
  refine lv_istore_n (lv' := [(3, .int 0), (0, .ref (a 0)), (1, .int o1), (2, .int o2)]) hx hb dX11_shrink_1 rfl hl (by decide) rfl (fun ls hl => ?_)
  refine lv_iload_n hx hb dX11_shrink_2 rfl (lv_at hl 3 rfl) ?_
  refine lv_istore (lv' := [(4, .int o2), (3, .int 0), (0, .ref (a 0)), (1, .int o1), (2, .int o2)]) hx hb dX11_shrink_3 hl (by decide) rfl (fun ls hl => ?_)
  exact hB5 N o1 0 o2 u ls (lv_sub hl [2, 3, 1, 0] rfl) hF _ _ hP hS
set_option maxHeartbeats 4000000 in
set_option maxRecDepth 100000 in
theorem kt_X11_cut {N : Nat} {l : Launch} {D : va_G} {a : Nat → Nat} {cI : Nat → ClassId} (hD : ∀ σ, va_D (am_A a) (am_W a cI σ)) {o1 : Int32} {o2 : Int32} {u σ0 : q_St} {r0 : Int32} (hF : fX11_cut N o1 o2 u = some (r0, σ0)) : Met l yX11_cut (Cond.code yX11_cut cX11_cut 6 (some .int) :: q_T) ({ frames := 9, cells := 0, slots := 0, locals := 196 } : Room) (q_P D vwCl (am_T cI) (am_W a cI) [.ref (a 0), .int o1, .int o2] u) (q_Qi D vwCl (am_W a cI) (am_A a) r0 σ0) 0 0 (am_A a) := by
  refine Met.ofW (cc := cX11_cut) (maxL := 6) (ret := (some .int)) (by decide) rfl ?_
  intro p e s m args below meth c s₁ B hml hv
  obtain ⟨rfl, hP, hK⟩ := hv
  have hx := B.exec
  have hb := B.bytes
  have hr := B.returns
  have hts := q_ts (atoms_spec (ws := Cond.code yX11_cut cX11_cut 6 (some .int) :: q_T) B.pre)
  have hown : s.vm.findClass RX11 = some m.cls := findClass_of_methodNamed B.named
  have hlocks := B.notSynchronized
  have hS : va_S (am_A a) s.heap s.heap [] := va_S.rf
  have hl := lv_entry ([.ref (a 0), .int o1, .int o2]) (n := 6) (Nat.le_of_ble_eq_true rfl)
  rw [lg_entry_eq]
  generalize (lg_sl ([.ref (a 0), .int o1, .int o2]) ++ List.replicate (6 - (lg_sl ([.ref (a 0), .int o1, .int o2])).length) Slot.unset).toArray = ls at hl ⊢
  have hl : lv_has ls 6 [(0, .ref (a 0)), (1, .int o1), (2, .int o2)] := hl
  have hB155 : ∀ (x1 : Int32) (x2 : Int32) (x3 : Int32) (u : q_St) (ls : Array Slot), lv_has ls 6 [(0, .ref (a 0)), (1, .int x1), (2, .int x2), (3, .int x3)] → fX11_cut_b155 N x1 x2 x3 u = some (r0, σ0) → ∀ (H : Heap) (locs : List Loc), va_P D vwCl (am_W a cI u) H → va_S (am_A a) s.heap H locs → W p l e (headSpec (Cond.code yX11_cut cX11_cut 6 (some .int) :: q_T) ({ frames := 9, cells := 0, slots := 0, locals := 196 } : Room)).room s m ([.ref (a 0), .int o1, .int o2] : List Value).toArray below meth c H locs 0 0 (MQ below (q_Qi D vwCl (am_W a cI) (am_A a) r0 σ0) ([.ref (a 0), .int o1, .int o2] : List Value).toArray s 0 0 (am_A a)) (F0 m 155 ls []) := by
    intro x1 x2 x3 u ls hl hF _ _ hP hS
    unfold fX11_cut_b155 at hF
    refine lv_aload_n hx hb dX11_cut_155 rfl (lv_at hl 0 rfl) ?_
    refine gm_m_size hx hb hts hown hK hP fl_X11_43 dX11_cut_156 ?_
    refine lv_iload_n hx hb dX11_cut_159 rfl (lv_at hl 1 rfl) ?_
    refine lv_iload_n hx hb dX11_cut_160 rfl (lv_at hl 2 rfl) ?_
    refine um_m_size hx hb hK hP hD hS hF dX11_cut_161 (fun u16 H locs hF hP hS => ?_)
    refine lv_aload_n hx hb dX11_cut_162 rfl (lv_at hl 0 rfl) ?_
    refine lv_iload_n hx hb dX11_cut_163 rfl (lv_at hl 1 rfl) ?_
    obtain ⟨r17, u18, hc19, hF⟩ := q_bnd_some hF
    refine sx_cv (Wd := (am_W a cI)) (σ1 := u18) (q_runV (Wd := (am_W a cI)) (σ := u16) (q0 := 0) (ci := 11) (T := TX11) (N := 72) (As := [.int x1]) (rest := []) hx hb hml hown hts hK hP (kt_X11_soilNode hD hc19) cw_X11_324 rfl rfl ⟨Nat.le_of_ble_eq_true rfl, Nat.le_of_ble_eq_true rfl⟩ rfl rfl rfl hl.1 rfl (Nat.le_of_ble_eq_true rfl) dX11_cut_164) hS (fun H locs hP hS => ?_)
    refine lv_iload_n hx hb dX11_cut_167 rfl (lv_at hl 3 rfl) ?_
    exact sx_reti (Wd := (am_W a cI)) (σ := u18) hx hb hr hF hP hS hlocks dX11_cut_168
  have hB122 : ∀ (n : Nat) (x1 : Int32) (x2 : Int32) (x3 : Int32) (x4 : Int32) (x5 : Int32) (u : q_St) (ls : Array Slot), lv_has ls 6 [(0, .ref (a 0)), (1, .int x1), (2, .int x2), (3, .int x3), (4, .int x4), (5, .int x5)] → q_lp (fX11_cut_b122 N) (fun _ _ _ _ _ _ => none) n x1 x2 x3 x4 x5 u = some (r0, σ0) → ∀ (H : Heap) (locs : List Loc), va_P D vwCl (am_W a cI u) H → va_S (am_A a) s.heap H locs → W p l e (headSpec (Cond.code yX11_cut cX11_cut 6 (some .int) :: q_T) ({ frames := 9, cells := 0, slots := 0, locals := 196 } : Room)).room s m ([.ref (a 0), .int o1, .int o2] : List Value).toArray below meth c H locs 0 0 (MQ below (q_Qi D vwCl (am_W a cI) (am_A a) r0 σ0) ([.ref (a 0), .int o1, .int o2] : List Value).toArray s 0 0 (am_A a)) (F0 m 122 ls []) := by
    intro n
    induction n with
    | zero => intro x1 x2 x3 x4 x5 u ls hl hF; exact absurd (show (none : Option (Int32 × q_St)) = some _ from hF) (fun h => nomatch h)
    | succ n hi122 =>
      intro x1 x2 x3 x4 x5 u ls hl hF _ _ hP hS
      obtain ⟨ih122, hih⟩ : ∃ q, q = q_lp (fX11_cut_b122 N) (fun _ _ _ _ _ _ => none) n := ⟨_, rfl⟩
      rw [← hih] at hi122
      have hF : fX11_cut_b122 N (q_lp (fX11_cut_b122 N) (fun _ _ _ _ _ _ => none) n) x1 x2 x3 x4 x5 u = some (r0, σ0) := hF
      rw [← hih] at hF
      clear hih
      unfold fX11_cut_b122 at hF
      refine lv_iload hx hb dX11_cut_122 (lv_at hl 5 rfl) ?_
      refine lv_bipush (v := 64) hx hb dX11_cut_124 (by decide) ?_
      refine lv_iload hx hb dX11_cut_126 (lv_at hl 4 rfl) ?_
      refine lv_imul hx hb dX11_cut_128 ?_
      refine lv_bipush (v := 64) hx hb dX11_cut_129 (by decide) ?_
      refine lv_iadd hx hb dX11_cut_131 ?_
      refine sx_icmp_ge (tgt := 149) hx hb hF dX11_cut_132 (by decide) (fun hF => ?_) (fun hF => ?_)
      · refine lv_aload_n hx hb dX11_cut_149 rfl (lv_at hl 0 rfl) ?_
        refine lv_iload hx hb dX11_cut_150 (lv_at hl 4 rfl) ?_
        obtain ⟨r21, u22, hc23, hF⟩ := q_bnd_some hF
        refine sx_cv (Wd := (am_W a cI)) (σ1 := u22) (q_runV (Wd := (am_W a cI)) (σ := u) (q0 := 0) (ci := 11) (T := TX11) (N := 72) (As := [.int x4]) (rest := []) hx hb hml hown hts hK hP (kt_X11_soil hD hc23) cw_X11_294 rfl rfl ⟨Nat.le_of_ble_eq_true rfl, Nat.le_of_ble_eq_true rfl⟩ rfl rfl rfl hl.1 rfl (Nat.le_of_ble_eq_true rfl) dX11_cut_152) hS (fun H locs hP hS => ?_)
        exact hB155 x1 x2 x3 u22 ls (lv_sub hl [0, 1, 2, 3] rfl) hF _ _ hP hS
      · refine lv_aload_n hx hb dX11_cut_135 rfl (lv_at hl 0 rfl) ?_
        refine gm_m_bytes hx hb hts hown hK hP fl_X11_86 dX11_cut_136 ?_
        refine lv_iload hx hb dX11_cut_139 (lv_at hl 5 rfl) ?_
        refine lv_iconst (v := 0) hx hb dX11_cut_141 (by decide) ?_
        refine um_m_bytes hx hb hK hP hD hS hF dX11_cut_142 (fun u24 H locs hF hP hS => ?_)
        refine sx_iinc (d := 1) (k := 5) (lv2 := [(0, .ref (a 0)), (1, .int x1), (2, .int x2), (3, .int x3), (4, .int x4)]) hx hb hF dX11_cut_143 hl rfl (by decide) (by decide) rfl (fun v25 hF ls hl => ?_)
        refine lv_goto (tgt := 122) hx hb dX11_cut_146 (by decide) ?_
        exact hi122 x1 x2 x3 x4 v25 u24 ls (lv_sub hl [1, 2, 3, 4, 5, 0] rfl) hF _ _ hP hS
  have hB102 : ∀ (x1 : Int32) (x2 : Int32) (x3 : Int32) (y0 : Int32) (u : q_St) (ls : Array Slot), lv_has ls 6 [(0, .ref (a 0)), (1, .int x1), (2, .int x2), (3, .int x3)] → fX11_cut_b102 N x1 x2 x3 y0 u = some (r0, σ0) → ∀ (H : Heap) (locs : List Loc), va_P D vwCl (am_W a cI u) H → va_S (am_A a) s.heap H locs → W p l e (headSpec (Cond.code yX11_cut cX11_cut 6 (some .int) :: q_T) ({ frames := 9, cells := 0, slots := 0, locals := 196 } : Room)).room s m ([.ref (a 0), .int o1, .int o2] : List Value).toArray below meth c H locs 0 0 (MQ below (q_Qi D vwCl (am_W a cI) (am_A a) r0 σ0) ([.ref (a 0), .int o1, .int o2] : List Value).toArray s 0 0 (am_A a)) (F0 m 102 ls [.int y0]) := by
    intro x1 x2 x3 y0 u ls hl hF _ _ hP hS
    unfold fX11_cut_b102 at hF
    refine lv_istore (lv' := [(4, .int y0), (0, .ref (a 0)), (1, .int x1), (2, .int x2), (3, .int x3)]) hx hb dX11_cut_102 hl (by decide) rfl (fun ls hl => ?_)
    refine lv_iload hx hb dX11_cut_104 (lv_at hl 0 rfl) ?_
    refine lv_iconst (v := (-1)) hx hb dX11_cut_106 (by decide) ?_
    refine sx_icmp_eq (tgt := 155) hx hb hF dX11_cut_107 (by decide) (fun hF => ?_) (fun hF => ?_)
    · exact hB155 x1 x2 x3 u ls (lv_sub hl [1, 2, 3, 4] rfl) hF _ _ hP hS
    · refine lv_bipush (v := 64) hx hb dX11_cut_110 (by decide) ?_
      refine lv_iload hx hb dX11_cut_112 (lv_at hl 0 rfl) ?_
      refine lv_imul hx hb dX11_cut_114 ?_
      refine lv_iload_n hx hb dX11_cut_115 rfl (lv_at hl 3 rfl) ?_
      refine lv_bipush (v := 64) hx hb dX11_cut_116 (by decide) ?_
      refine lv_irem hx hb dX11_cut_118 (by decide) ?_
      refine lv_iadd hx hb dX11_cut_119 ?_
      refine sx_istore (lv2 := [(4, .int y0), (0, .ref (a 0)), (1, .int x1), (2, .int x2), (3, .int x3)]) hx hb hF dX11_cut_120 hl (by decide) rfl (fun v20 hF ls hl => ?_)
      exact hB122 N x1 x2 x3 y0 v20 u ls (lv_sub hl [2, 3, 4, 5, 1, 0] rfl) hF _ _ hP hS
  unfold fX11_cut at hF
  refine lv_aload_n hx hb dX11_cut_0 rfl (lv_at hl 0 rfl) ?_
  obtain ⟨r1, u2, hc3, hF⟩ := q_bnd_some hF
  refine sx_ci (Wd := (am_W a cI)) (σ1 := u2) (q_runV (Wd := (am_W a cI)) (σ := u) (q0 := 0) (ci := 11) (T := TX11) (N := 72) (As := []) (rest := []) hx hb hml hown hts hK hP (kt_X11_begins hD hc3) cw_X11_333 rfl rfl ⟨Nat.le_of_ble_eq_true rfl, Nat.le_of_ble_eq_true rfl⟩ rfl rfl rfl hl.1 rfl (Nat.le_of_ble_eq_true rfl) dX11_cut_1) hS (fun H locs hP hS => ?_)
  refine sx_if_ne (tgt := 10) hx hb hF dX11_cut_4 (by decide) (fun hF => ?_) (fun hF => ?_)
  · refine lv_aload_n hx hb dX11_cut_10 rfl (lv_at hl 0 rfl) ?_
    refine lv_iload_n hx hb dX11_cut_11 rfl (lv_at hl 1 rfl) ?_
    refine lv_iconst (v := 0) hx hb dX11_cut_12 (by decide) ?_
    obtain ⟨r4, u5, hc6, hF⟩ := q_bnd_some hF
    refine sx_ci (Wd := (am_W a cI)) (σ1 := u5) (q_runV (Wd := (am_W a cI)) (σ := u2) (q0 := 0) (ci := 11) (T := TX11) (N := 72) (As := [.int o1, .int 0]) (rest := []) hx hb hml hown hts hK hP (kt_X11_isFile hD hc6) cw_X11_373 rfl rfl ⟨Nat.le_of_ble_eq_true rfl, Nat.le_of_ble_eq_true rfl⟩ rfl rfl rfl hl.1 rfl (Nat.le_of_ble_eq_true rfl) dX11_cut_13) hS (fun H locs hP hS => ?_)
    refine sx_if_ne (tgt := 22) hx hb hF dX11_cut_16 (by decide) (fun hF => ?_) (fun hF => ?_)
    · refine lv_aload_n hx hb dX11_cut_22 rfl (lv_at hl 0 rfl) ?_
      refine lv_iload_n hx hb dX11_cut_23 rfl (lv_at hl 1 rfl) ?_
      refine lv_iconst (v := 2) hx hb dX11_cut_24 (by decide) ?_
      obtain ⟨r7, u8, hc9, hF⟩ := q_bnd_some hF
      refine sx_ci (Wd := (am_W a cI)) (σ1 := u8) (q_runV (Wd := (am_W a cI)) (σ := u5) (q0 := 0) (ci := 11) (T := TX11) (N := 72) (As := [.int o1, .int 2]) (rest := []) hx hb hml hown hts hK hP (kt_X11_may hD hc9) cw_X11_346 rfl rfl ⟨Nat.le_of_ble_eq_true rfl, Nat.le_of_ble_eq_true rfl⟩ rfl rfl rfl hl.1 rfl (Nat.le_of_ble_eq_true rfl) dX11_cut_25) hS (fun H locs hP hS => ?_)
      refine sx_if_ne (tgt := 34) hx hb hF dX11_cut_28 (by decide) (fun hF => ?_) (fun hF => ?_)
      · refine lv_iload_n hx hb dX11_cut_34 rfl (lv_at hl 2 rfl) ?_
        refine sx_if_lt (tgt := 48) hx hb hF dX11_cut_35 (by decide) (fun hF => ?_) (fun hF => ?_)
        · refine lv_bipush (v := (-15)) hx hb dX11_cut_48 (by decide) ?_
          exact sx_reti (Wd := (am_W a cI)) (σ := u8) hx hb hr hF hP hS hlocks dX11_cut_50
        · refine lv_iload_n hx hb dX11_cut_38 rfl (lv_at hl 2 rfl) ?_
          refine lv_aload_n hx hb dX11_cut_39 rfl (lv_at hl 0 rfl) ?_
          refine gm_m_size hx hb hts hown hK hP fl_X11_43 dX11_cut_40 ?_
          refine lv_iload_n hx hb dX11_cut_43 rfl (lv_at hl 1 rfl) ?_
          refine lm_m_size hx hb hK hP hF dX11_cut_44 (fun v10 hF => ?_)
          refine sx_icmp_le (tgt := 51) hx hb hF dX11_cut_45 (by decide) (fun hF => ?_) (fun hF => ?_)
          · refine lv_iload_n hx hb dX11_cut_51 rfl (lv_at hl 2 rfl) ?_
            refine lv_aload_n hx hb dX11_cut_52 rfl (lv_at hl 0 rfl) ?_
            refine gm_m_size hx hb hts hown hK hP fl_X11_43 dX11_cut_53 ?_
            refine lv_iload_n hx hb dX11_cut_56 rfl (lv_at hl 1 rfl) ?_
            refine lm_m_size hx hb hK hP hF dX11_cut_57 (fun v11 hF => ?_)
            refine sx_icmp_ne (tgt := 63) hx hb hF dX11_cut_58 (by decide) (fun hF => ?_) (fun hF => ?_)
            · refine lv_aload_n hx hb dX11_cut_63 rfl (lv_at hl 0 rfl) ?_
              refine lv_iload_n hx hb dX11_cut_64 rfl (lv_at hl 1 rfl) ?_
              refine lv_iload_n hx hb dX11_cut_65 rfl (lv_at hl 2 rfl) ?_
              refine lv_bipush (v := 63) hx hb dX11_cut_66 (by decide) ?_
              refine lv_iadd hx hb dX11_cut_68 ?_
              refine lv_bipush (v := 64) hx hb dX11_cut_69 (by decide) ?_
              refine lv_idiv hx hb dX11_cut_71 (by decide) ?_
              obtain ⟨r12, u13, hc14, hF⟩ := q_bnd_some hF
              refine sx_ci (Wd := (am_W a cI)) (σ1 := u13) (q_runV (Wd := (am_W a cI)) (σ := u8) (q0 := 0) (ci := 11) (T := TX11) (N := 72) (As := [.int o1, .int ((o2 + 63) / 64)]) (rest := []) hx hb hml hown hts hK hP (kt_X11_shrink hD hc14) cw_X11_431 rfl rfl ⟨Nat.le_of_ble_eq_true rfl, Nat.le_of_ble_eq_true rfl⟩ rfl rfl rfl hl.1 rfl (Nat.le_of_ble_eq_true rfl) dX11_cut_72) hS (fun H locs hP hS => ?_)
              refine lv_istore_n (lv' := [(3, .int r12), (0, .ref (a 0)), (1, .int o1), (2, .int o2)]) hx hb dX11_cut_75 rfl hl (by decide) rfl (fun ls hl => ?_)
              refine lv_iload_n hx hb dX11_cut_76 rfl (lv_at hl 3 rfl) ?_
              refine lv_bipush (v := 64) hx hb dX11_cut_77 (by decide) ?_
              refine lv_irem hx hb dX11_cut_79 (by decide) ?_
              refine sx_if_ne (tgt := 87) hx hb hF dX11_cut_80 (by decide) (fun hF => ?_) (fun hF => ?_)
              · refine lv_aload_n hx hb dX11_cut_87 rfl (lv_at hl 1 rfl) ?_
                refine gm_m_piece hx hb hts hown hK hP fl_X11_53 dX11_cut_88 ?_
                refine lv_sipush (v := 1068) hx hb dX11_cut_91 (by decide) ?_
                refine lv_iload_n hx hb dX11_cut_94 rfl (lv_at hl 2 rfl) ?_
                refine lv_imul hx hb dX11_cut_95 ?_
                refine lv_iload_n hx hb dX11_cut_96 rfl (lv_at hl 3 rfl) ?_
                refine lv_bipush (v := 64) hx hb dX11_cut_97 (by decide) ?_
                refine lv_idiv hx hb dX11_cut_99 (by decide) ?_
                refine lv_iadd hx hb dX11_cut_100 ?_
                refine lm_m_piece hx hb hK hP hF dX11_cut_101 (fun v15 hF => ?_)
                exact hB102 o1 o2 r12 v15 u13 ls (lv_sub hl [1, 2, 3, 0] rfl) hF _ _ hP hS
              · refine lv_iconst (v := (-1)) hx hb dX11_cut_83 (by decide) ?_
                refine lv_goto (tgt := 102) hx hb dX11_cut_84 (by decide) ?_
                exact hB102 o1 o2 r12 (-1) u13 ls (lv_sub hl [1, 2, 3, 0] rfl) hF _ _ hP hS
            · refine lv_iconst (v := 0) hx hb dX11_cut_61 (by decide) ?_
              exact sx_reti (Wd := (am_W a cI)) (σ := u8) hx hb hr hF hP hS hlocks dX11_cut_62
          · refine lv_bipush (v := (-15)) hx hb dX11_cut_48 (by decide) ?_
            exact sx_reti (Wd := (am_W a cI)) (σ := u8) hx hb hr hF hP hS hlocks dX11_cut_50
      · refine lv_bipush (v := (-20)) hx hb dX11_cut_31 (by decide) ?_
        exact sx_reti (Wd := (am_W a cI)) (σ := u8) hx hb hr hF hP hS hlocks dX11_cut_33
    · refine lv_bipush (v := (-14)) hx hb dX11_cut_19 (by decide) ?_
      exact sx_reti (Wd := (am_W a cI)) (σ := u5) hx hb hr hF hP hS hlocks dX11_cut_21
  · refine lv_bipush (v := (-99)) hx hb dX11_cut_7 (by decide) ?_
    exact sx_reti (Wd := (am_W a cI)) (σ := u2) hx hb hr hF hP hS hlocks dX11_cut_9
set_option maxHeartbeats 4000000 in
set_option maxRecDepth 100000 in
theorem kt_X11_undo {N : Nat} {l : Launch} {D : va_G} {a : Nat → Nat} {cI : Nat → ClassId} (hD : ∀ σ, va_D (am_A a) (am_W a cI σ)) {o1 : Int32} {u σ0 : q_St} {r0 : Int32} (hF : fX11_undo N o1 u = some (r0, σ0)) : Met l yX11_undo (Cond.code yX11_undo cX11_undo 4 (some .int) :: q_T) ({ frames := 3, cells := 0, slots := 0, locals := 63 } : Room) (q_P D vwCl (am_T cI) (am_W a cI) [.ref (a 0), .int o1] u) (q_Qi D vwCl (am_W a cI) (am_A a) r0 σ0) 0 0 (am_A a) := by
  refine Met.ofW (cc := cX11_undo) (maxL := 4) (ret := (some .int)) (by decide) rfl ?_
  intro p e s m args below meth c s₁ B hml hv
  obtain ⟨rfl, hP, hK⟩ := hv
  have hx := B.exec
  have hb := B.bytes
  have hr := B.returns
  have hts := q_ts (atoms_spec (ws := Cond.code yX11_undo cX11_undo 4 (some .int) :: q_T) B.pre)
  have hown : s.vm.findClass RX11 = some m.cls := findClass_of_methodNamed B.named
  have hlocks := B.notSynchronized
  have hS : va_S (am_A a) s.heap s.heap [] := va_S.rf
  have hl := lv_entry ([.ref (a 0), .int o1]) (n := 4) (Nat.le_of_ble_eq_true rfl)
  rw [lg_entry_eq]
  generalize (lg_sl ([.ref (a 0), .int o1]) ++ List.replicate (4 - (lg_sl ([.ref (a 0), .int o1])).length) Slot.unset).toArray = ls at hl ⊢
  have hl : lv_has ls 4 [(0, .ref (a 0)), (1, .int o1)] := hl
  have hB9 : ∀ (n : Nat) (x1 : Int32) (x2 : Int32) (x3 : Int32) (u : q_St) (ls : Array Slot), lv_has ls 4 [(0, .ref (a 0)), (1, .int x1), (2, .int x2), (3, .int x3)] → q_lp (fX11_undo_b9 N) (fun _ _ _ _ => none) n x1 x2 x3 u = some (r0, σ0) → ∀ (H : Heap) (locs : List Loc), va_P D vwCl (am_W a cI u) H → va_S (am_A a) s.heap H locs → W p l e (headSpec (Cond.code yX11_undo cX11_undo 4 (some .int) :: q_T) ({ frames := 3, cells := 0, slots := 0, locals := 63 } : Room)).room s m ([.ref (a 0), .int o1] : List Value).toArray below meth c H locs 0 0 (MQ below (q_Qi D vwCl (am_W a cI) (am_A a) r0 σ0) ([.ref (a 0), .int o1] : List Value).toArray s 0 0 (am_A a)) (F0 m 9 ls []) := by
    intro n
    induction n with
    | zero => intro x1 x2 x3 u ls hl hF; exact absurd (show (none : Option (Int32 × q_St)) = some _ from hF) (fun h => nomatch h)
    | succ n hi9 =>
      intro x1 x2 x3 u ls hl hF _ _ hP hS
      obtain ⟨ih9, hih⟩ : ∃ q, q = q_lp (fX11_undo_b9 N) (fun _ _ _ _ => none) n := ⟨_, rfl⟩
      rw [← hih] at hi9
      have hF : fX11_undo_b9 N (q_lp (fX11_undo_b9 N) (fun _ _ _ _ => none) n) x1 x2 x3 u = some (r0, σ0) := hF
      rw [← hih] at hF
      clear hih
      unfold fX11_undo_b9 at hF
      refine lv_iload_n hx hb dX11_undo_9 rfl (lv_at hl 3 rfl) ?_
      refine lv_iload_n hx hb dX11_undo_10 rfl (lv_at hl 2 rfl) ?_
      refine sx_icmp_ge (tgt := 35) hx hb hF dX11_undo_11 (by decide) (fun hF => ?_) (fun hF => ?_)
      · refine lv_aload_n hx hb dX11_undo_35 rfl (lv_at hl 0 rfl) ?_
        refine gm_m_many hx hb hts hown hK hP fl_X11_49 dX11_undo_36 ?_
        refine lv_iload_n hx hb dX11_undo_39 rfl (lv_at hl 1 rfl) ?_
        refine lv_iconst (v := 0) hx hb dX11_undo_40 (by decide) ?_
        refine um_m_many hx hb hK hP hD hS hF dX11_undo_41 (fun u2 H locs hF hP hS => ?_)
        refine lv_iload_n hx hb dX11_undo_42 rfl (lv_at hl 2 rfl) ?_
        exact sx_reti (Wd := (am_W a cI)) (σ := u2) hx hb hr hF hP hS hlocks dX11_undo_43
      · refine lv_aload_n hx hb dX11_undo_14 rfl (lv_at hl 0 rfl) ?_
        refine lv_aload_n hx hb dX11_undo_15 rfl (lv_at hl 0 rfl) ?_
        refine gm_m_block hx hb hts hown hK hP fl_X11_65 dX11_undo_16 ?_
        refine lv_bipush (v := 12) hx hb dX11_undo_19 (by decide) ?_
        refine lv_iload_n hx hb dX11_undo_21 rfl (lv_at hl 1 rfl) ?_
        refine lv_imul hx hb dX11_undo_22 ?_
        refine lv_iload_n hx hb dX11_undo_23 rfl (lv_at hl 3 rfl) ?_
        refine lv_iadd hx hb dX11_undo_24 ?_
        refine lm_m_block hx hb hK hP hF dX11_undo_25 (fun v3 hF => ?_)
        obtain ⟨r4, u5, hc6, hF⟩ := q_bnd_some hF
        refine sx_cv (Wd := (am_W a cI)) (σ1 := u5) (q_runV (Wd := (am_W a cI)) (σ := u) (q0 := 0) (ci := 11) (T := TX11) (N := 72) (As := [.int v3]) (rest := []) hx hb hml hown hts hK hP (kt_X11_giveBlock hD hc6) cw_X11_434 rfl rfl ⟨Nat.le_of_ble_eq_true rfl, Nat.le_of_ble_eq_true rfl⟩ rfl rfl rfl hl.1 rfl (Nat.le_of_ble_eq_true rfl) dX11_undo_26) hS (fun H locs hP hS => ?_)
        refine sx_iinc (d := 1) (k := 3) (lv2 := [(0, .ref (a 0)), (1, .int x1), (2, .int x2)]) hx hb hF dX11_undo_29 hl rfl (by decide) (by decide) rfl (fun v7 hF ls hl => ?_)
        refine lv_goto (tgt := 9) hx hb dX11_undo_32 (by decide) ?_
        exact hi9 x1 x2 v7 u5 ls (lv_sub hl [1, 2, 3, 0] rfl) hF _ _ hP hS
  unfold fX11_undo at hF
  refine lv_aload_n hx hb dX11_undo_0 rfl (lv_at hl 0 rfl) ?_
  refine gm_m_many hx hb hts hown hK hP fl_X11_49 dX11_undo_1 ?_
  refine lv_iload_n hx hb dX11_undo_4 rfl (lv_at hl 1 rfl) ?_
  refine lm_m_many hx hb hK hP hF dX11_undo_5 (fun v1 hF => ?_)
  refine lv_istore_n (lv' := [(2, .int v1), (0, .ref (a 0)), (1, .int o1)]) hx hb dX11_undo_6 rfl hl (by decide) rfl (fun ls hl => ?_)
  refine lv_iconst (v := 0) hx hb dX11_undo_7 (by decide) ?_
  refine lv_istore_n (lv' := [(3, .int 0), (2, .int v1), (0, .ref (a 0)), (1, .int o1)]) hx hb dX11_undo_8 rfl hl (by decide) rfl (fun ls hl => ?_)
  exact hB9 N o1 v1 0 u ls (lv_sub hl [2, 3, 1, 0] rfl) hF _ _ hP hS
set_option maxHeartbeats 4000000 in
set_option maxRecDepth 100000 in
theorem kt_X11_unlay {N : Nat} {l : Launch} {D : va_G} {a : Nat → Nat} {cI : Nat → ClassId} (hD : ∀ σ, va_D (am_A a) (am_W a cI σ)) {o1 : Int32} {u σ0 : q_St} {r0 : Int32} (hF : fX11_unlay N o1 u = some (r0, σ0)) : Met l yX11_unlay (Cond.code yX11_unlay cX11_unlay 3 (some .int) :: q_T) ({ frames := 3, cells := 0, slots := 0, locals := 63 } : Room) (q_P D vwCl (am_T cI) (am_W a cI) [.ref (a 0), .int o1] u) (q_Qi D vwCl (am_W a cI) (am_A a) r0 σ0) 0 0 (am_A a) := by
  refine Met.ofW (cc := cX11_unlay) (maxL := 3) (ret := (some .int)) (by decide) rfl ?_
  intro p e s m args below meth c s₁ B hml hv
  obtain ⟨rfl, hP, hK⟩ := hv
  have hx := B.exec
  have hb := B.bytes
  have hr := B.returns
  have hts := q_ts (atoms_spec (ws := Cond.code yX11_unlay cX11_unlay 3 (some .int) :: q_T) B.pre)
  have hown : s.vm.findClass RX11 = some m.cls := findClass_of_methodNamed B.named
  have hlocks := B.notSynchronized
  have hS : va_S (am_A a) s.heap s.heap [] := va_S.rf
  have hl := lv_entry ([.ref (a 0), .int o1]) (n := 3) (Nat.le_of_ble_eq_true rfl)
  rw [lg_entry_eq]
  generalize (lg_sl ([.ref (a 0), .int o1]) ++ List.replicate (3 - (lg_sl ([.ref (a 0), .int o1])).length) Slot.unset).toArray = ls at hl ⊢
  have hl : lv_has ls 3 [(0, .ref (a 0)), (1, .int o1)] := hl
  have hB10 : ∀ (n : Nat) (x1 : Int32) (x2 : Int32) (u : q_St) (ls : Array Slot), lv_has ls 3 [(0, .ref (a 0)), (1, .int x1), (2, .int x2)] → q_lp (fX11_unlay_b10 N) (fun _ _ _ => none) n x1 x2 u = some (r0, σ0) → ∀ (H : Heap) (locs : List Loc), va_P D vwCl (am_W a cI u) H → va_S (am_A a) s.heap H locs → W p l e (headSpec (Cond.code yX11_unlay cX11_unlay 3 (some .int) :: q_T) ({ frames := 3, cells := 0, slots := 0, locals := 63 } : Room)).room s m ([.ref (a 0), .int o1] : List Value).toArray below meth c H locs 0 0 (MQ below (q_Qi D vwCl (am_W a cI) (am_A a) r0 σ0) ([.ref (a 0), .int o1] : List Value).toArray s 0 0 (am_A a)) (F0 m 10 ls []) := by
    intro n
    induction n with
    | zero => intro x1 x2 u ls hl hF; exact absurd (show (none : Option (Int32 × q_St)) = some _ from hF) (fun h => nomatch h)
    | succ n hi10 =>
      intro x1 x2 u ls hl hF _ _ hP hS
      obtain ⟨ih10, hih⟩ : ∃ q, q = q_lp (fX11_unlay_b10 N) (fun _ _ _ => none) n := ⟨_, rfl⟩
      rw [← hih] at hi10
      have hF : fX11_unlay_b10 N (q_lp (fX11_unlay_b10 N) (fun _ _ _ => none) n) x1 x2 u = some (r0, σ0) := hF
      rw [← hih] at hF
      clear hih
      unfold fX11_unlay_b10 at hF
      refine lv_iload_n hx hb dX11_unlay_10 rfl (lv_at hl 2 rfl) ?_
      refine lv_aload_n hx hb dX11_unlay_11 rfl (lv_at hl 0 rfl) ?_
      refine gm_m_block hx hb hts hown hK hP fl_X11_65 dX11_unlay_12 ?_
      refine lv_bipush (v := 12) hx hb dX11_unlay_15 (by decide) ?_
      refine lv_iload_n hx hb dX11_unlay_17 rfl (lv_at hl 1 rfl) ?_
      refine lv_imul hx hb dX11_unlay_18 ?_
      refine lm_m_block hx hb hK hP hF dX11_unlay_19 (fun v2 hF => ?_)
      refine lv_aload_n hx hb dX11_unlay_20 rfl (lv_at hl 0 rfl) ?_
      refine gm_m_wide hx hb hts hown hK hP fl_X11_165 dX11_unlay_21 ?_
      refine lv_iadd hx hb dX11_unlay_24 ?_
      refine sx_icmp_ge (tgt := 39) hx hb hF dX11_unlay_25 (by decide) (fun hF => ?_) (fun hF => ?_)
      · refine lv_aload_n hx hb dX11_unlay_39 rfl (lv_at hl 0 rfl) ?_
        refine gm_m_wide hx hb hts hown hK hP fl_X11_165 dX11_unlay_40 ?_
        exact sx_reti (Wd := (am_W a cI)) (σ := u) hx hb hr hF hP hS hlocks dX11_unlay_43
      · refine lv_aload_n hx hb dX11_unlay_28 rfl (lv_at hl 0 rfl) ?_
        refine lv_iload_n hx hb dX11_unlay_29 rfl (lv_at hl 2 rfl) ?_
        obtain ⟨r3, u4, hc5, hF⟩ := q_bnd_some hF
        refine sx_cv (Wd := (am_W a cI)) (σ1 := u4) (q_runV (Wd := (am_W a cI)) (σ := u) (q0 := 0) (ci := 11) (T := TX11) (N := 72) (As := [.int x2]) (rest := []) hx hb hml hown hts hK hP (kt_X11_giveBlock hD hc5) cw_X11_434 rfl rfl ⟨Nat.le_of_ble_eq_true rfl, Nat.le_of_ble_eq_true rfl⟩ rfl rfl rfl hl.1 rfl (Nat.le_of_ble_eq_true rfl) dX11_unlay_30) hS (fun H locs hP hS => ?_)
        refine sx_iinc (d := 1) (k := 2) (lv2 := [(0, .ref (a 0)), (1, .int x1)]) hx hb hF dX11_unlay_33 hl rfl (by decide) (by decide) rfl (fun v6 hF ls hl => ?_)
        refine lv_goto (tgt := 10) hx hb dX11_unlay_36 (by decide) ?_
        exact hi10 x1 v6 u4 ls (lv_sub hl [1, 2, 0] rfl) hF _ _ hP hS
  unfold fX11_unlay at hF
  refine lv_aload_n hx hb dX11_unlay_0 rfl (lv_at hl 0 rfl) ?_
  refine gm_m_block hx hb hts hown hK hP fl_X11_65 dX11_unlay_1 ?_
  refine lv_bipush (v := 12) hx hb dX11_unlay_4 (by decide) ?_
  refine lv_iload_n hx hb dX11_unlay_6 rfl (lv_at hl 1 rfl) ?_
  refine lv_imul hx hb dX11_unlay_7 ?_
  refine lm_m_block hx hb hK hP hF dX11_unlay_8 (fun v1 hF => ?_)
  refine lv_istore_n (lv' := [(2, .int v1), (0, .ref (a 0)), (1, .int o1)]) hx hb dX11_unlay_9 rfl hl (by decide) rfl (fun ls hl => ?_)
  exact hB10 N o1 v1 u ls (lv_sub hl [1, 2, 0] rfl) hF _ _ hP hS
set_option maxHeartbeats 4000000 in
set_option maxRecDepth 100000 in
theorem kt_X11_dropSlot {N : Nat} {l : Launch} {D : va_G} {a : Nat → Nat} {cI : Nat → ClassId} (hD : ∀ σ, va_D (am_A a) (am_W a cI σ)) {o1 : Int32} {u σ0 : q_St} {r0 : Int32} (hF : fX11_dropSlot N o1 u = some (r0, σ0)) : Met l yX11_dropSlot (Cond.code yX11_dropSlot cX11_dropSlot 4 (some .int) :: q_T) ({ frames := 5, cells := 0, slots := 0, locals := 115 } : Room) (q_P D vwCl (am_T cI) (am_W a cI) [.ref (a 0), .int o1] u) (q_Qi D vwCl (am_W a cI) (am_A a) r0 σ0) 0 0 (am_A a) := by
  refine Met.ofW (cc := cX11_dropSlot) (maxL := 4) (ret := (some .int)) (by decide) rfl ?_
  intro p e s m args below meth c s₁ B hml hv
  obtain ⟨rfl, hP, hK⟩ := hv
  have hx := B.exec
  have hb := B.bytes
  have hr := B.returns
  have hts := q_ts (atoms_spec (ws := Cond.code yX11_dropSlot cX11_dropSlot 4 (some .int) :: q_T) B.pre)
  have hown : s.vm.findClass RX11 = some m.cls := findClass_of_methodNamed B.named
  have hlocks := B.notSynchronized
  have hS : va_S (am_A a) s.heap s.heap [] := va_S.rf
  have hl := lv_entry ([.ref (a 0), .int o1]) (n := 4) (Nat.le_of_ble_eq_true rfl)
  rw [lg_entry_eq]
  generalize (lg_sl ([.ref (a 0), .int o1]) ++ List.replicate (4 - (lg_sl ([.ref (a 0), .int o1])).length) Slot.unset).toArray = ls at hl ⊢
  have hl : lv_has ls 4 [(0, .ref (a 0)), (1, .int o1)] := hl
  have hB87 : ∀ (x2 : Int32) (y0 : Int32) (u : q_St) (ls : Array Slot), lv_has ls 4 [(0, .ref (a 0)), (2, .int x2)] → fX11_dropSlot_b87 N x2 y0 u = some (r0, σ0) → ∀ (H : Heap) (locs : List Loc), va_P D vwCl (am_W a cI u) H → va_S (am_A a) s.heap H locs → W p l e (headSpec (Cond.code yX11_dropSlot cX11_dropSlot 4 (some .int) :: q_T) ({ frames := 5, cells := 0, slots := 0, locals := 115 } : Room)).room s m ([.ref (a 0), .int o1] : List Value).toArray below meth c H locs 0 0 (MQ below (q_Qi D vwCl (am_W a cI) (am_A a) r0 σ0) ([.ref (a 0), .int o1] : List Value).toArray s 0 0 (am_A a)) (F0 m 87 ls [.int y0]) := by
    intro x2 y0 u ls hl hF _ _ hP hS
    unfold fX11_dropSlot_b87 at hF
    refine lv_istore_n (lv' := [(3, .int y0), (0, .ref (a 0)), (2, .int x2)]) hx hb dX11_dropSlot_87 rfl hl (by decide) rfl (fun ls hl => ?_)
    refine lv_aload_n hx hb dX11_dropSlot_88 rfl (lv_at hl 1 rfl) ?_
    refine gm_m_kind hx hb hts hown hK hP fl_X11_40 dX11_dropSlot_89 ?_
    refine lv_iload_n hx hb dX11_dropSlot_92 rfl (lv_at hl 2 rfl) ?_
    refine lv_iconst (v := 0) hx hb dX11_dropSlot_93 (by decide) ?_
    refine um_m_kind hx hb hK hP hD hS hF dX11_dropSlot_94 (fun u17 H locs hF hP hS => ?_)
    refine lv_iload_n hx hb dX11_dropSlot_95 rfl (lv_at hl 0 rfl) ?_
    exact sx_reti (Wd := (am_W a cI)) (σ := u17) hx hb hr hF hP hS hlocks dX11_dropSlot_96
  unfold fX11_dropSlot at hF
  refine lv_aload_n hx hb dX11_dropSlot_0 rfl (lv_at hl 0 rfl) ?_
  refine gm_m_slotNode hx hb hts hown hK hP fl_X11_68 dX11_dropSlot_1 ?_
  refine lv_iload_n hx hb dX11_dropSlot_4 rfl (lv_at hl 1 rfl) ?_
  refine lm_m_slotNode hx hb hK hP hF dX11_dropSlot_5 (fun v1 hF => ?_)
  refine lv_istore_n (lv' := [(2, .int v1), (0, .ref (a 0)), (1, .int o1)]) hx hb dX11_dropSlot_6 rfl hl (by decide) rfl (fun ls hl => ?_)
  refine lv_aload_n hx hb dX11_dropSlot_7 rfl (lv_at hl 1 rfl) ?_
  refine gm_m_slotNode hx hb hts hown hK hP fl_X11_68 dX11_dropSlot_8 ?_
  refine lv_iload_n hx hb dX11_dropSlot_11 rfl (lv_at hl 2 rfl) ?_
  refine lv_iconst (v := (-1)) hx hb dX11_dropSlot_12 (by decide) ?_
  refine um_m_slotNode hx hb hK hP hD hS hF dX11_dropSlot_13 (fun u2 H locs hF hP hS => ?_)
  refine lv_aload_n hx hb dX11_dropSlot_14 rfl (lv_at hl 1 rfl) ?_
  refine lv_iload_n hx hb dX11_dropSlot_15 rfl (lv_at hl 2 rfl) ?_
  obtain ⟨r3, u4, hc5, hF⟩ := q_bnd_some hF
  refine sx_cv (Wd := (am_W a cI)) (σ1 := u4) (q_runV (Wd := (am_W a cI)) (σ := u2) (q0 := 0) (ci := 11) (T := TX11) (N := 72) (As := [.int o1]) (rest := []) hx hb hml hown hts hK hP (kt_X11_soilSlot hD hc5) cw_X11_327 rfl rfl ⟨Nat.le_of_ble_eq_true rfl, Nat.le_of_ble_eq_true rfl⟩ rfl rfl rfl hl.1 rfl (Nat.le_of_ble_eq_true rfl) dX11_dropSlot_16) hS (fun H locs hP hS => ?_)
  refine lv_aload_n hx hb dX11_dropSlot_19 rfl (lv_at hl 1 rfl) ?_
  refine lv_iload_n hx hb dX11_dropSlot_20 rfl (lv_at hl 0 rfl) ?_
  obtain ⟨r6, u7, hc8, hF⟩ := q_bnd_some hF
  refine sx_cv (Wd := (am_W a cI)) (σ1 := u7) (q_runV (Wd := (am_W a cI)) (σ := u4) (q0 := 0) (ci := 11) (T := TX11) (N := 72) (As := [.int v1]) (rest := []) hx hb hml hown hts hK hP (kt_X11_soilNode hD hc8) cw_X11_324 rfl rfl ⟨Nat.le_of_ble_eq_true rfl, Nat.le_of_ble_eq_true rfl⟩ rfl rfl rfl hl.1 rfl (Nat.le_of_ble_eq_true rfl) dX11_dropSlot_21) hS (fun H locs hP hS => ?_)
  refine lv_aload_n hx hb dX11_dropSlot_24 rfl (lv_at hl 1 rfl) ?_
  refine gm_m_links hx hb hts hown hK hP fl_X11_75 dX11_dropSlot_25 ?_
  refine lv_iload_n hx hb dX11_dropSlot_28 rfl (lv_at hl 0 rfl) ?_
  refine lv_dup2_11 hx hb dX11_dropSlot_29 rfl rfl ?_
  refine lm_m_links hx hb hK hP hF dX11_dropSlot_30 (fun v9 hF => ?_)
  refine lv_iconst (v := 1) hx hb dX11_dropSlot_31 (by decide) ?_
  refine lv_isub hx hb dX11_dropSlot_32 ?_
  refine um_m_links hx hb hK hP hD hS hF dX11_dropSlot_33 (fun u10 H locs hF hP hS => ?_)
  refine lv_aload_n hx hb dX11_dropSlot_34 rfl (lv_at hl 1 rfl) ?_
  refine gm_m_links hx hb hts hown hK hP fl_X11_75 dX11_dropSlot_35 ?_
  refine lv_iload_n hx hb dX11_dropSlot_38 rfl (lv_at hl 0 rfl) ?_
  refine lm_m_links hx hb hK hP hF dX11_dropSlot_39 (fun v11 hF => ?_)
  refine sx_if_le (tgt := 45) hx hb hF dX11_dropSlot_40 (by decide) (fun hF => ?_) (fun hF => ?_)
  · refine lv_aload_n hx hb dX11_dropSlot_45 rfl (lv_at hl 1 rfl) ?_
    refine gm_m_kind hx hb hts hown hK hP fl_X11_40 dX11_dropSlot_46 ?_
    refine lv_iload_n hx hb dX11_dropSlot_49 rfl (lv_at hl 0 rfl) ?_
    refine lm_m_kind hx hb hK hP hF dX11_dropSlot_50 (fun v12 hF => ?_)
    refine lv_iconst (v := 3) hx hb dX11_dropSlot_51 (by decide) ?_
    refine sx_icmp_ne (tgt := 63) hx hb hF dX11_dropSlot_52 (by decide) (fun hF => ?_) (fun hF => ?_)
    · refine lv_aload_n hx hb dX11_dropSlot_63 rfl (lv_at hl 1 rfl) ?_
      refine gm_m_kind hx hb hts hown hK hP fl_X11_40 dX11_dropSlot_64 ?_
      refine lv_iload_n hx hb dX11_dropSlot_67 rfl (lv_at hl 0 rfl) ?_
      refine lm_m_kind hx hb hK hP hF dX11_dropSlot_68 (fun v13 hF => ?_)
      refine lv_iconst (v := 2) hx hb dX11_dropSlot_69 (by decide) ?_
      refine sx_icmp_ne (tgt := 81) hx hb hF dX11_dropSlot_70 (by decide) (fun hF => ?_) (fun hF => ?_)
      · refine lv_aload_n hx hb dX11_dropSlot_81 rfl (lv_at hl 1 rfl) ?_
        refine lv_iload_n hx hb dX11_dropSlot_82 rfl (lv_at hl 0 rfl) ?_
        refine lv_iconst (v := 0) hx hb dX11_dropSlot_83 (by decide) ?_
        obtain ⟨r14, u15, hc16, hF⟩ := q_bnd_some hF
        refine sx_ci (Wd := (am_W a cI)) (σ1 := u15) (q_runV (Wd := (am_W a cI)) (σ := u10) (q0 := 0) (ci := 11) (T := TX11) (N := 72) (As := [.int v1, .int 0]) (rest := []) hx hb hml hown hts hK hP (kt_X11_shrink hD hc16) cw_X11_431 rfl rfl ⟨Nat.le_of_ble_eq_true rfl, Nat.le_of_ble_eq_true rfl⟩ rfl rfl rfl hl.1 rfl (Nat.le_of_ble_eq_true rfl) dX11_dropSlot_84) hS (fun H locs hP hS => ?_)
        exact hB87 v1 r14 u15 ls (lv_sub hl [1, 0] rfl) hF _ _ hP hS
      · refine lv_aload_n hx hb dX11_dropSlot_73 rfl (lv_at hl 1 rfl) ?_
        refine lv_iload_n hx hb dX11_dropSlot_74 rfl (lv_at hl 0 rfl) ?_
        obtain ⟨r18, u19, hc20, hF⟩ := q_bnd_some hF
        refine sx_ci (Wd := (am_W a cI)) (σ1 := u19) (q_runV (Wd := (am_W a cI)) (σ := u10) (q0 := 0) (ci := 11) (T := TX11) (N := 72) (As := [.int v1]) (rest := []) hx hb hml hown hts hK hP (kt_X11_undo hD hc20) cw_X11_452 rfl rfl ⟨Nat.le_of_ble_eq_true rfl, Nat.le_of_ble_eq_true rfl⟩ rfl rfl rfl hl.1 rfl (Nat.le_of_ble_eq_true rfl) dX11_dropSlot_75) hS (fun H locs hP hS => ?_)
        refine lv_goto (tgt := 87) hx hb dX11_dropSlot_78 (by decide) ?_
        exact hB87 v1 r18 u19 ls (lv_sub hl [1, 0] rfl) hF _ _ hP hS
    · refine lv_aload_n hx hb dX11_dropSlot_55 rfl (lv_at hl 1 rfl) ?_
      refine lv_iload_n hx hb dX11_dropSlot_56 rfl (lv_at hl 0 rfl) ?_
      obtain ⟨r21, u22, hc23, hF⟩ := q_bnd_some hF
      refine sx_ci (Wd := (am_W a cI)) (σ1 := u22) (q_runV (Wd := (am_W a cI)) (σ := u10) (q0 := 0) (ci := 11) (T := TX11) (N := 72) (As := [.int v1]) (rest := []) hx hb hml hown hts hK hP (kt_X11_unlay hD hc23) cw_X11_449 rfl rfl ⟨Nat.le_of_ble_eq_true rfl, Nat.le_of_ble_eq_true rfl⟩ rfl rfl rfl hl.1 rfl (Nat.le_of_ble_eq_true rfl) dX11_dropSlot_57) hS (fun H locs hP hS => ?_)
      refine lv_goto (tgt := 87) hx hb dX11_dropSlot_60 (by decide) ?_
      exact hB87 v1 r21 u22 ls (lv_sub hl [1, 0] rfl) hF _ _ hP hS
  · refine lv_iconst (v := 0) hx hb dX11_dropSlot_43 (by decide) ?_
    exact sx_reti (Wd := (am_W a cI)) (σ := u10) hx hb hr hF hP hS hlocks dX11_dropSlot_44
set_option maxHeartbeats 4000000 in
set_option maxRecDepth 100000 in
theorem kt_X11_names {N : Nat} {l : Launch} {D : va_G} {a : Nat → Nat} {cI : Nat → ClassId} (hD : ∀ σ, va_D (am_A a) (am_W a cI σ)) {o1 : Int32} {u σ0 : q_St} {r0 : Int32} (hF : fX11_names N o1 u = some (r0, σ0)) : Met l yX11_names (Cond.code yX11_names cX11_names 4 (some .int) :: q_T) ({ frames := 1, cells := 0, slots := 0, locals := 21 } : Room) (q_P D vwCl (am_T cI) (am_W a cI) [.ref (a 0), .int o1] u) (q_Qi D vwCl (am_W a cI) (am_A a) r0 σ0) 0 0 (am_A a) := by
  refine Met.ofW (cc := cX11_names) (maxL := 4) (ret := (some .int)) (by decide) rfl ?_
  intro p e s m args below meth c s₁ B hml hv
  obtain ⟨rfl, hP, hK⟩ := hv
  have hx := B.exec
  have hb := B.bytes
  have hr := B.returns
  have hts := q_ts (atoms_spec (ws := Cond.code yX11_names cX11_names 4 (some .int) :: q_T) B.pre)
  have hown : s.vm.findClass RX11 = some m.cls := findClass_of_methodNamed B.named
  have hlocks := B.notSynchronized
  have hS : va_S (am_A a) s.heap s.heap [] := va_S.rf
  have hl := lv_entry ([.ref (a 0), .int o1]) (n := 4) (Nat.le_of_ble_eq_true rfl)
  rw [lg_entry_eq]
  generalize (lg_sl ([.ref (a 0), .int o1]) ++ List.replicate (4 - (lg_sl ([.ref (a 0), .int o1])).length) Slot.unset).toArray = ls at hl ⊢
  have hl : lv_has ls 4 [(0, .ref (a 0)), (1, .int o1)] := hl
  have hB37 : ∀ (ih7 : Int32 → Int32 → Int32 → q_St → Option (Int32 × q_St)) (hi7 : ∀ (x1 : Int32) (x2 : Int32) (x3 : Int32) (u : q_St) (ls : Array Slot), lv_has ls 4 [(0, .ref (a 0)), (1, .int x1), (2, .int x2), (3, .int x3)] → ih7 x1 x2 x3 u = some (r0, σ0) → ∀ (H : Heap) (locs : List Loc), va_P D vwCl (am_W a cI u) H → va_S (am_A a) s.heap H locs → W p l e (headSpec (Cond.code yX11_names cX11_names 4 (some .int) :: q_T) ({ frames := 1, cells := 0, slots := 0, locals := 21 } : Room)).room s m ([.ref (a 0), .int o1] : List Value).toArray below meth c H locs 0 0 (MQ below (q_Qi D vwCl (am_W a cI) (am_A a) r0 σ0) ([.ref (a 0), .int o1] : List Value).toArray s 0 0 (am_A a)) (F0 m 7 ls [])), ∀ (x1 : Int32) (x3 : Int32) (y0 : Int32) (y1 : Int32) (u : q_St) (ls : Array Slot), lv_has ls 4 [(0, .ref (a 0)), (1, .int x1), (3, .int x3)] → fX11_names_b37 N ih7 x1 x3 y0 y1 u = some (r0, σ0) → ∀ (H : Heap) (locs : List Loc), va_P D vwCl (am_W a cI u) H → va_S (am_A a) s.heap H locs → W p l e (headSpec (Cond.code yX11_names cX11_names 4 (some .int) :: q_T) ({ frames := 1, cells := 0, slots := 0, locals := 21 } : Room)).room s m ([.ref (a 0), .int o1] : List Value).toArray below meth c H locs 0 0 (MQ below (q_Qi D vwCl (am_W a cI) (am_A a) r0 σ0) ([.ref (a 0), .int o1] : List Value).toArray s 0 0 (am_A a)) (F0 m 37 ls [.int y0, .int y1]) := by
    intro ih7 hi7 x1 x3 y0 y1 u ls hl hF _ _ hP hS
    unfold fX11_names_b37 at hF
    refine lv_iadd hx hb dX11_names_37 ?_
    refine sx_istore_n (lv2 := [(0, .ref (a 0)), (1, .int x1), (3, .int x3)]) hx hb hF dX11_names_38 rfl hl (by decide) rfl (fun v6 hF ls hl => ?_)
    refine sx_iinc (d := 1) (k := 3) (lv2 := [(2, .int v6), (0, .ref (a 0)), (1, .int x1)]) hx hb hF dX11_names_39 hl rfl (by decide) (by decide) rfl (fun v7 hF ls hl => ?_)
    refine lv_goto (tgt := 7) hx hb dX11_names_42 (by decide) ?_
    exact hi7 x1 v6 v7 u ls (lv_sub hl [2, 3, 1, 0] rfl) hF _ _ hP hS
  have hB7 : ∀ (n : Nat) (x1 : Int32) (x2 : Int32) (x3 : Int32) (u : q_St) (ls : Array Slot), lv_has ls 4 [(0, .ref (a 0)), (1, .int x1), (2, .int x2), (3, .int x3)] → q_lp (fX11_names_b7 N) (fun _ _ _ _ => none) n x1 x2 x3 u = some (r0, σ0) → ∀ (H : Heap) (locs : List Loc), va_P D vwCl (am_W a cI u) H → va_S (am_A a) s.heap H locs → W p l e (headSpec (Cond.code yX11_names cX11_names 4 (some .int) :: q_T) ({ frames := 1, cells := 0, slots := 0, locals := 21 } : Room)).room s m ([.ref (a 0), .int o1] : List Value).toArray below meth c H locs 0 0 (MQ below (q_Qi D vwCl (am_W a cI) (am_A a) r0 σ0) ([.ref (a 0), .int o1] : List Value).toArray s 0 0 (am_A a)) (F0 m 7 ls []) := by
    intro n
    induction n with
    | zero => intro x1 x2 x3 u ls hl hF; exact absurd (show (none : Option (Int32 × q_St)) = some _ from hF) (fun h => nomatch h)
    | succ n hi7 =>
      intro x1 x2 x3 u ls hl hF _ _ hP hS
      obtain ⟨ih7, hih⟩ : ∃ q, q = q_lp (fX11_names_b7 N) (fun _ _ _ _ => none) n := ⟨_, rfl⟩
      rw [← hih] at hi7
      have hF : fX11_names_b7 N (q_lp (fX11_names_b7 N) (fun _ _ _ _ => none) n) x1 x2 x3 u = some (r0, σ0) := hF
      rw [← hih] at hF
      clear hih
      unfold fX11_names_b7 at hF
      refine lv_iload_n hx hb dX11_names_7 rfl (lv_at hl 3 rfl) ?_
      refine lv_bipush (v := 48) hx hb dX11_names_8 (by decide) ?_
      refine lv_iload_n hx hb dX11_names_10 rfl (lv_at hl 1 rfl) ?_
      refine lv_imul hx hb dX11_names_11 ?_
      refine lv_aload_n hx hb dX11_names_12 rfl (lv_at hl 0 rfl) ?_
      refine lv_iload_n hx hb dX11_names_13 rfl (lv_at hl 1 rfl) ?_
      obtain ⟨r2, u3, hc4, hF⟩ := q_bnd_some hF
      refine sx_ci (Wd := (am_W a cI)) (σ1 := u3) (q_runV (Wd := (am_W a cI)) (σ := u) (q0 := 0) (ci := 11) (T := TX11) (N := 72) (As := [.int x1]) (rest := [.int (48 * x1), .int x3]) hx hb hml hown hts hK hP (kt_X11_slots hD hc4) cw_X11_315 rfl rfl ⟨Nat.le_of_ble_eq_true rfl, Nat.le_of_ble_eq_true rfl⟩ rfl rfl rfl hl.1 rfl (Nat.le_of_ble_eq_true rfl) dX11_names_14) hS (fun H locs hP hS => ?_)
      refine lv_iadd hx hb dX11_names_17 ?_
      refine sx_icmp_ge (tgt := 45) hx hb hF dX11_names_18 (by decide) (fun hF => ?_) (fun hF => ?_)
      · refine lv_iload_n hx hb dX11_names_45 rfl (lv_at hl 2 rfl) ?_
        exact sx_reti (Wd := (am_W a cI)) (σ := u3) hx hb hr hF hP hS hlocks dX11_names_46
      · refine lv_iload_n hx hb dX11_names_21 rfl (lv_at hl 2 rfl) ?_
        refine lv_aload_n hx hb dX11_names_22 rfl (lv_at hl 0 rfl) ?_
        refine gm_m_slotNode hx hb hts hown hK hP fl_X11_68 dX11_names_23 ?_
        refine lv_iload_n hx hb dX11_names_26 rfl (lv_at hl 3 rfl) ?_
        refine lm_m_slotNode hx hb hK hP hF dX11_names_27 (fun v5 hF => ?_)
        refine lv_iconst (v := (-1)) hx hb dX11_names_28 (by decide) ?_
        refine sx_icmp_ne (tgt := 36) hx hb hF dX11_names_29 (by decide) (fun hF => ?_) (fun hF => ?_)
        · refine lv_iconst (v := 1) hx hb dX11_names_36 (by decide) ?_
          exact hB37 ih7 hi7 x1 x3 1 x2 u3 ls (lv_sub hl [0, 1, 3] rfl) hF _ _ hP hS
        · refine lv_iconst (v := 0) hx hb dX11_names_32 (by decide) ?_
          refine lv_goto (tgt := 37) hx hb dX11_names_33 (by decide) ?_
          exact hB37 ih7 hi7 x1 x3 0 x2 u3 ls (lv_sub hl [0, 1, 3] rfl) hF _ _ hP hS
  unfold fX11_names at hF
  refine lv_iconst (v := 0) hx hb dX11_names_0 (by decide) ?_
  refine lv_istore_n (lv' := [(2, .int 0), (0, .ref (a 0)), (1, .int o1)]) hx hb dX11_names_1 rfl hl (by decide) rfl (fun ls hl => ?_)
  refine lv_bipush (v := 48) hx hb dX11_names_2 (by decide) ?_
  refine lv_iload_n hx hb dX11_names_4 rfl (lv_at hl 2 rfl) ?_
  refine lv_imul hx hb dX11_names_5 ?_
  refine sx_istore_n (lv2 := [(2, .int 0), (0, .ref (a 0)), (1, .int o1)]) hx hb hF dX11_names_6 rfl hl (by decide) rfl (fun v1 hF ls hl => ?_)
  exact hB7 N o1 0 v1 u ls (lv_sub hl [2, 3, 1, 0] rfl) hF _ _ hP hS
set_option maxHeartbeats 4000000 in
set_option maxRecDepth 100000 in
theorem kt_X11_drop {N : Nat} {l : Launch} {D : va_G} {a : Nat → Nat} {cI : Nat → ClassId} (hD : ∀ σ, va_D (am_A a) (am_W a cI σ)) {o1 : Int32} {o2 : Int64} {u σ0 : q_St} {r0 : Int32} (hF : fX11_drop N o1 o2 u = some (r0, σ0)) : Met l yX11_drop (Cond.code yX11_drop cX11_drop 6 (some .int) :: q_T) ({ frames := 9, cells := 0, slots := 0, locals := 196 } : Room) (q_P D vwCl (am_T cI) (am_W a cI) [.ref (a 0), .int o1, .long o2] u) (q_Qi D vwCl (am_W a cI) (am_A a) r0 σ0) 0 0 (am_A a) := by
  refine Met.ofW (cc := cX11_drop) (maxL := 6) (ret := (some .int)) (by decide) rfl ?_
  intro p e s m args below meth c s₁ B hml hv
  obtain ⟨rfl, hP, hK⟩ := hv
  have hx := B.exec
  have hb := B.bytes
  have hr := B.returns
  have hts := q_ts (atoms_spec (ws := Cond.code yX11_drop cX11_drop 6 (some .int) :: q_T) B.pre)
  have hown : s.vm.findClass RX11 = some m.cls := findClass_of_methodNamed B.named
  have hlocks := B.notSynchronized
  have hS : va_S (am_A a) s.heap s.heap [] := va_S.rf
  have hl := lv_entry ([.ref (a 0), .int o1, .long o2]) (n := 6) (Nat.le_of_ble_eq_true rfl)
  rw [lg_entry_eq]
  generalize (lg_sl ([.ref (a 0), .int o1, .long o2]) ++ List.replicate (6 - (lg_sl ([.ref (a 0), .int o1, .long o2])).length) Slot.unset).toArray = ls at hl ⊢
  have hl : lv_has ls 6 [(0, .ref (a 0)), (1, .int o1), (2, .long o2)] := hl
  have hB92 : ∀ (x4 : Int32) (u : q_St) (ls : Array Slot), lv_has ls 6 [(0, .ref (a 0)), (4, .int x4)] → fX11_drop_b92 N x4 u = some (r0, σ0) → ∀ (H : Heap) (locs : List Loc), va_P D vwCl (am_W a cI u) H → va_S (am_A a) s.heap H locs → W p l e (headSpec (Cond.code yX11_drop cX11_drop 6 (some .int) :: q_T) ({ frames := 9, cells := 0, slots := 0, locals := 196 } : Room)).room s m ([.ref (a 0), .int o1, .long o2] : List Value).toArray below meth c H locs 0 0 (MQ below (q_Qi D vwCl (am_W a cI) (am_A a) r0 σ0) ([.ref (a 0), .int o1, .long o2] : List Value).toArray s 0 0 (am_A a)) (F0 m 92 ls []) := by
    intro x4 u ls hl hF _ _ hP hS
    unfold fX11_drop_b92 at hF
    refine lv_aload_n hx hb dX11_drop_92 rfl (lv_at hl 0 rfl) ?_
    refine lv_iload hx hb dX11_drop_93 (lv_at hl 1 rfl) ?_
    obtain ⟨r18, u19, hc20, hF⟩ := q_bnd_some hF
    refine sx_ci (Wd := (am_W a cI)) (σ1 := u19) (q_runV (Wd := (am_W a cI)) (σ := u) (q0 := 0) (ci := 11) (T := TX11) (N := 72) (As := [.int x4]) (rest := []) hx hb hml hown hts hK hP (kt_X11_dropSlot hD hc20) cw_X11_446 rfl rfl ⟨Nat.le_of_ble_eq_true rfl, Nat.le_of_ble_eq_true rfl⟩ rfl rfl rfl hl.1 rfl (Nat.le_of_ble_eq_true rfl) dX11_drop_95) hS (fun H locs hP hS => ?_)
    exact sx_reti (Wd := (am_W a cI)) (σ := u19) hx hb hr hF hP hS hlocks dX11_drop_98
  unfold fX11_drop at hF
  refine lv_aload_n hx hb dX11_drop_0 rfl (lv_at hl 0 rfl) ?_
  obtain ⟨r1, u2, hc3, hF⟩ := q_bnd_some hF
  refine sx_ci (Wd := (am_W a cI)) (σ1 := u2) (q_runV (Wd := (am_W a cI)) (σ := u) (q0 := 0) (ci := 11) (T := TX11) (N := 72) (As := []) (rest := []) hx hb hml hown hts hK hP (kt_X11_begins hD hc3) cw_X11_333 rfl rfl ⟨Nat.le_of_ble_eq_true rfl, Nat.le_of_ble_eq_true rfl⟩ rfl rfl rfl hl.1 rfl (Nat.le_of_ble_eq_true rfl) dX11_drop_1) hS (fun H locs hP hS => ?_)
  refine sx_if_ne (tgt := 10) hx hb hF dX11_drop_4 (by decide) (fun hF => ?_) (fun hF => ?_)
  · refine lv_aload_n hx hb dX11_drop_10 rfl (lv_at hl 0 rfl) ?_
    refine lv_iload_n hx hb dX11_drop_11 rfl (lv_at hl 1 rfl) ?_
    obtain ⟨r4, u5, hc6, hF⟩ := q_bnd_some hF
    refine sx_ci (Wd := (am_W a cI)) (σ1 := u5) (q_runV (Wd := (am_W a cI)) (σ := u2) (q0 := 0) (ci := 11) (T := TX11) (N := 72) (As := [.int o1]) (rest := []) hx hb hml hown hts hK hP (kt_X11_isDirectory hD hc6) cw_X11_339 rfl rfl ⟨Nat.le_of_ble_eq_true rfl, Nat.le_of_ble_eq_true rfl⟩ rfl rfl rfl hl.1 rfl (Nat.le_of_ble_eq_true rfl) dX11_drop_12) hS (fun H locs hP hS => ?_)
    refine sx_if_ne (tgt := 21) hx hb hF dX11_drop_15 (by decide) (fun hF => ?_) (fun hF => ?_)
    · refine lv_lload_n hx hb dX11_drop_21 rfl (lv_at hl 2 rfl) ?_
      obtain ⟨r7, u8, hc9, hF⟩ := q_bnd_some hF
      refine sx_ci (Wd := (am_W a cI)) (σ1 := u8) (q_runS (Wd := (am_W a cI)) (σ := u5) (As := [.long o2]) (rest := []) hx hb hml hown hts hK hP (kt_X11_isName hD hc9) cw_X11_342 rfl rfl ⟨Nat.le_of_ble_eq_true rfl, Nat.le_of_ble_eq_true rfl⟩ rfl hl.1 rfl (Nat.le_of_ble_eq_true rfl) dX11_drop_22) hS (fun H locs hP hS => ?_)
      refine sx_if_ne (tgt := 31) hx hb hF dX11_drop_25 (by decide) (fun hF => ?_) (fun hF => ?_)
      · refine lv_aload_n hx hb dX11_drop_31 rfl (lv_at hl 0 rfl) ?_
        refine lv_iload_n hx hb dX11_drop_32 rfl (lv_at hl 1 rfl) ?_
        refine lv_iconst (v := 3) hx hb dX11_drop_33 (by decide) ?_
        obtain ⟨r10, u11, hc12, hF⟩ := q_bnd_some hF
        refine sx_ci (Wd := (am_W a cI)) (σ1 := u11) (q_runV (Wd := (am_W a cI)) (σ := u8) (q0 := 0) (ci := 11) (T := TX11) (N := 72) (As := [.int o1, .int 3]) (rest := []) hx hb hml hown hts hK hP (kt_X11_may hD hc12) cw_X11_346 rfl rfl ⟨Nat.le_of_ble_eq_true rfl, Nat.le_of_ble_eq_true rfl⟩ rfl rfl rfl hl.1 rfl (Nat.le_of_ble_eq_true rfl) dX11_drop_34) hS (fun H locs hP hS => ?_)
        refine sx_if_ne (tgt := 43) hx hb hF dX11_drop_37 (by decide) (fun hF => ?_) (fun hF => ?_)
        · refine lv_aload_n hx hb dX11_drop_43 rfl (lv_at hl 0 rfl) ?_
          refine lv_iload_n hx hb dX11_drop_44 rfl (lv_at hl 1 rfl) ?_
          refine lv_lload_n hx hb dX11_drop_45 rfl (lv_at hl 2 rfl) ?_
          obtain ⟨r13, u14, hc15, hF⟩ := q_bnd_some hF
          refine sx_ci (Wd := (am_W a cI)) (σ1 := u14) (q_runV (Wd := (am_W a cI)) (σ := u11) (q0 := 0) (ci := 11) (T := TX11) (N := 72) (As := [.int o1, .long o2]) (rest := []) hx hb hml hown hts hK hP (kt_X11_slotOf hD hc15) cw_X11_349 rfl rfl ⟨Nat.le_of_ble_eq_true rfl, Nat.le_of_ble_eq_true rfl⟩ rfl rfl rfl hl.1 rfl (Nat.le_of_ble_eq_true rfl) dX11_drop_46) hS (fun H locs hP hS => ?_)
          refine lv_istore (lv' := [(4, .int r13), (0, .ref (a 0)), (1, .int o1), (2, .long o2)]) hx hb dX11_drop_49 hl (by decide) rfl (fun ls hl => ?_)
          refine lv_iload hx hb dX11_drop_51 (lv_at hl 0 rfl) ?_
          refine lv_iconst (v := (-1)) hx hb dX11_drop_53 (by decide) ?_
          refine sx_icmp_ne (tgt := 60) hx hb hF dX11_drop_54 (by decide) (fun hF => ?_) (fun hF => ?_)
          · refine lv_aload_n hx hb dX11_drop_60 rfl (lv_at hl 1 rfl) ?_
            refine gm_m_slotNode hx hb hts hown hK hP fl_X11_68 dX11_drop_61 ?_
            refine lv_iload hx hb dX11_drop_64 (lv_at hl 0 rfl) ?_
            refine lm_m_slotNode hx hb hK hP hF dX11_drop_66 (fun v16 hF => ?_)
            refine lv_istore (lv' := [(5, .int v16), (4, .int r13), (0, .ref (a 0)), (1, .int o1), (2, .long o2)]) hx hb dX11_drop_67 hl (by decide) rfl (fun ls hl => ?_)
            refine lv_aload_n hx hb dX11_drop_69 rfl (lv_at hl 2 rfl) ?_
            refine gm_m_kind hx hb hts hown hK hP fl_X11_40 dX11_drop_70 ?_
            refine lv_iload hx hb dX11_drop_73 (lv_at hl 0 rfl) ?_
            refine lm_m_kind hx hb hK hP hF dX11_drop_75 (fun v17 hF => ?_)
            refine lv_iconst (v := 2) hx hb dX11_drop_76 (by decide) ?_
            refine sx_icmp_ne (tgt := 92) hx hb hF dX11_drop_77 (by decide) (fun hF => ?_) (fun hF => ?_)
            · exact hB92 r13 u14 ls (lv_sub hl [2, 1] rfl) hF _ _ hP hS
            · refine lv_aload_n hx hb dX11_drop_80 rfl (lv_at hl 2 rfl) ?_
              refine lv_iload hx hb dX11_drop_81 (lv_at hl 0 rfl) ?_
              obtain ⟨r21, u22, hc23, hF⟩ := q_bnd_some hF
              refine sx_ci (Wd := (am_W a cI)) (σ1 := u22) (q_runV (Wd := (am_W a cI)) (σ := u14) (q0 := 0) (ci := 11) (T := TX11) (N := 72) (As := [.int v16]) (rest := []) hx hb hml hown hts hK hP (kt_X11_names hD hc23) cw_X11_443 rfl rfl ⟨Nat.le_of_ble_eq_true rfl, Nat.le_of_ble_eq_true rfl⟩ rfl rfl rfl hl.1 rfl (Nat.le_of_ble_eq_true rfl) dX11_drop_83) hS (fun H locs hP hS => ?_)
              refine sx_if_le (tgt := 92) hx hb hF dX11_drop_86 (by decide) (fun hF => ?_) (fun hF => ?_)
              · exact hB92 r13 u22 ls (lv_sub hl [2, 1] rfl) hF _ _ hP hS
              · refine lv_bipush (v := (-17)) hx hb dX11_drop_89 (by decide) ?_
                exact sx_reti (Wd := (am_W a cI)) (σ := u22) hx hb hr hF hP hS hlocks dX11_drop_91
          · refine lv_bipush (v := (-12)) hx hb dX11_drop_57 (by decide) ?_
            exact sx_reti (Wd := (am_W a cI)) (σ := u14) hx hb hr hF hP hS hlocks dX11_drop_59
        · refine lv_bipush (v := (-20)) hx hb dX11_drop_40 (by decide) ?_
          exact sx_reti (Wd := (am_W a cI)) (σ := u11) hx hb hr hF hP hS hlocks dX11_drop_42
      · refine lv_bipush (v := (-11)) hx hb dX11_drop_28 (by decide) ?_
        exact sx_reti (Wd := (am_W a cI)) (σ := u8) hx hb hr hF hP hS hlocks dX11_drop_30
    · refine lv_bipush (v := (-10)) hx hb dX11_drop_18 (by decide) ?_
      exact sx_reti (Wd := (am_W a cI)) (σ := u5) hx hb hr hF hP hS hlocks dX11_drop_20
  · refine lv_bipush (v := (-99)) hx hb dX11_drop_7 (by decide) ?_
    exact sx_reti (Wd := (am_W a cI)) (σ := u2) hx hb hr hF hP hS hlocks dX11_drop_9
set_option maxHeartbeats 4000000 in
set_option maxRecDepth 100000 in
theorem kt_X11_isIn {N : Nat} {l : Launch} {D : va_G} {a : Nat → Nat} {cI : Nat → ClassId} (hD : ∀ σ, va_D (am_A a) (am_W a cI σ)) {o1 : Int32} {o2 : Int32} {u σ0 : q_St} {r0 : Int32} (hF : fX11_isIn N o1 o2 u = some (r0, σ0)) : Met l yX11_isIn (Cond.code yX11_isIn cX11_isIn 4 (some .boolean) :: q_T) ({ frames := 0, cells := 0, slots := 0, locals := 0 } : Room) (q_P D vwCl (am_T cI) (am_W a cI) [.ref (a 0), .int o1, .int o2] u) (q_Qi D vwCl (am_W a cI) (am_A a) r0 σ0) 0 0 (am_A a) := by
  refine Met.ofW (cc := cX11_isIn) (maxL := 4) (ret := (some .boolean)) (by decide) rfl ?_
  intro p e s m args below meth c s₁ B hml hv
  obtain ⟨rfl, hP, hK⟩ := hv
  have hx := B.exec
  have hb := B.bytes
  have hr := B.returns
  have hts := q_ts (atoms_spec (ws := Cond.code yX11_isIn cX11_isIn 4 (some .boolean) :: q_T) B.pre)
  have hown : s.vm.findClass RX11 = some m.cls := findClass_of_methodNamed B.named
  have hlocks := B.notSynchronized
  have hS : va_S (am_A a) s.heap s.heap [] := va_S.rf
  have hl := lv_entry ([.ref (a 0), .int o1, .int o2]) (n := 4) (Nat.le_of_ble_eq_true rfl)
  rw [lg_entry_eq]
  generalize (lg_sl ([.ref (a 0), .int o1, .int o2]) ++ List.replicate (4 - (lg_sl ([.ref (a 0), .int o1, .int o2])).length) Slot.unset).toArray = ls at hl ⊢
  have hl : lv_has ls 4 [(0, .ref (a 0)), (1, .int o1), (2, .int o2)] := hl
  have hB21 : ∀ (x2 : Int32) (x3 : Int32) (u : q_St) (ls : Array Slot), lv_has ls 4 [(2, .int x2), (3, .int x3)] → fX11_isIn_b21 N x2 x3 u = some (r0, σ0) → ∀ (H : Heap) (locs : List Loc), va_P D vwCl (am_W a cI u) H → va_S (am_A a) s.heap H locs → W p l e (headSpec (Cond.code yX11_isIn cX11_isIn 4 (some .boolean) :: q_T) ({ frames := 0, cells := 0, slots := 0, locals := 0 } : Room)).room s m ([.ref (a 0), .int o1, .int o2] : List Value).toArray below meth c H locs 0 0 (MQ below (q_Qi D vwCl (am_W a cI) (am_A a) r0 σ0) ([.ref (a 0), .int o1, .int o2] : List Value).toArray s 0 0 (am_A a)) (F0 m 21 ls []) := by
    intro x2 x3 u ls hl hF _ _ hP hS
    unfold fX11_isIn_b21 at hF
    refine lv_iload_n hx hb dX11_isIn_21 rfl (lv_at hl 1 rfl) ?_
    refine lv_iload_n hx hb dX11_isIn_22 rfl (lv_at hl 0 rfl) ?_
    refine sx_icmp_ne (tgt := 30) hx hb hF dX11_isIn_23 (by decide) (fun hF => ?_) (fun hF => ?_)
    · refine lv_iconst (v := 0) hx hb dX11_isIn_30 (by decide) ?_
      exact sx_retz (Wd := (am_W a cI)) (σ := u) hx hb hr (by decide) hF hP hS hlocks dX11_isIn_31
    · refine lv_iconst (v := 1) hx hb dX11_isIn_26 (by decide) ?_
      refine lv_goto (tgt := 31) hx hb dX11_isIn_27 (by decide) ?_
      exact sx_retz (Wd := (am_W a cI)) (σ := u) hx hb hr (by decide) hF hP hS hlocks dX11_isIn_31
  have hB2 : ∀ (n : Nat) (x2 : Int32) (x3 : Int32) (u : q_St) (ls : Array Slot), lv_has ls 4 [(0, .ref (a 0)), (2, .int x2), (3, .int x3)] → q_lp (fX11_isIn_b2 N) (fun _ _ _ => none) n x2 x3 u = some (r0, σ0) → ∀ (H : Heap) (locs : List Loc), va_P D vwCl (am_W a cI u) H → va_S (am_A a) s.heap H locs → W p l e (headSpec (Cond.code yX11_isIn cX11_isIn 4 (some .boolean) :: q_T) ({ frames := 0, cells := 0, slots := 0, locals := 0 } : Room)).room s m ([.ref (a 0), .int o1, .int o2] : List Value).toArray below meth c H locs 0 0 (MQ below (q_Qi D vwCl (am_W a cI) (am_A a) r0 σ0) ([.ref (a 0), .int o1, .int o2] : List Value).toArray s 0 0 (am_A a)) (F0 m 2 ls []) := by
    intro n
    induction n with
    | zero => intro x2 x3 u ls hl hF; exact absurd (show (none : Option (Int32 × q_St)) = some _ from hF) (fun h => nomatch h)
    | succ n hi2 =>
      intro x2 x3 u ls hl hF _ _ hP hS
      obtain ⟨ih2, hih⟩ : ∃ q, q = q_lp (fX11_isIn_b2 N) (fun _ _ _ => none) n := ⟨_, rfl⟩
      rw [← hih] at hi2
      have hF : fX11_isIn_b2 N (q_lp (fX11_isIn_b2 N) (fun _ _ _ => none) n) x2 x3 u = some (r0, σ0) := hF
      rw [← hih] at hF
      clear hih
      unfold fX11_isIn_b2 at hF
      refine lv_iload_n hx hb dX11_isIn_2 rfl (lv_at hl 2 rfl) ?_
      refine lv_iload_n hx hb dX11_isIn_3 rfl (lv_at hl 1 rfl) ?_
      refine sx_icmp_eq (tgt := 21) hx hb hF dX11_isIn_4 (by decide) (fun hF => ?_) (fun hF => ?_)
      · exact hB21 x2 x3 u ls (lv_sub hl [1, 2] rfl) hF _ _ hP hS
      · refine lv_iload_n hx hb dX11_isIn_7 rfl (lv_at hl 2 rfl) ?_
        refine sx_if_eq (tgt := 21) hx hb hF dX11_isIn_8 (by decide) (fun hF => ?_) (fun hF => ?_)
        · exact hB21 x2 x3 u ls (lv_sub hl [1, 2] rfl) hF _ _ hP hS
        · refine lv_aload_n hx hb dX11_isIn_11 rfl (lv_at hl 0 rfl) ?_
          refine gm_m_parent hx hb hts hown hK hP fl_X11_46 dX11_isIn_12 ?_
          refine lv_iload_n hx hb dX11_isIn_15 rfl (lv_at hl 2 rfl) ?_
          refine lm_m_parent hx hb hK hP hF dX11_isIn_16 (fun v1 hF => ?_)
          refine lv_istore_n (lv' := [(3, .int v1), (0, .ref (a 0)), (2, .int x2)]) hx hb dX11_isIn_17 rfl hl (by decide) rfl (fun ls hl => ?_)
          refine lv_goto (tgt := 2) hx hb dX11_isIn_18 (by decide) ?_
          exact hi2 x2 v1 u ls (lv_sub hl [1, 2, 0] rfl) hF _ _ hP hS
  unfold fX11_isIn at hF
  refine lv_iload_n hx hb dX11_isIn_0 rfl (lv_at hl 1 rfl) ?_
  refine lv_istore_n (lv' := [(3, .int o1), (0, .ref (a 0)), (1, .int o1), (2, .int o2)]) hx hb dX11_isIn_1 rfl hl (by decide) rfl (fun ls hl => ?_)
  exact hB2 N o2 o1 u ls (lv_sub hl [1, 3, 0] rfl) hF _ _ hP hS
