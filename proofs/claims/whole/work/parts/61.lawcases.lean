/-! THE CLAIM OUT OF ONE WALK OF THE LAW'S BODY. Your part is whole_start (and what it stands on); all else here is the same for every law, but numbers. -/
def R_law : String := "ShingleHouseLaw"
def lw_P (b : Addr) (xs : List Int32) (args : Array Value) (s : State) : Prop := args = #[.ref b] ∧ s.IntsAt b xs ∧ xs.length ≤ 452 ∧ (Jvm.Cond.and given_1 narrow_1).before args s = true
def lw_Q (_ : Array Value) (s : State) (o : Outcome) (t : State) : Prop := o = .returned (some (.int 1)) ∧ Framed s o t [] 600000 7302250
def lw_Z (below : List Frame) (a : Array Value) (s : State) : State → Prop := fun t => ∃ o, t.status = .running ∧ Ended t below o ∧ lw_Q a s o t
/-- the law's own end, with 1 on the stack, nothing written that was there before, its room as the claim has it -/
theorem lw_ret {p : Program} {l : Launch} {e : Env} {s : State} {m : MethodId} {below : List Frame} {meth : Method} {c : Code} {b : Nat} (hx : p.tables.exec = Jvm.exec) (hb : c.code = code) (hr : meth.sig.returnType = ret) (hlocks : meth.locks = false) {pc : Nat} {H : Heap} {ls : Array Slot} (hdg : decode code pc = .ok (.ireturn, 1)) : W p l e room_1 s m #[Value.ref b] below meth c H [] 600000 7302250 (lw_Z below #[Value.ref b] s) (F0 m pc ls [.int 1]) := by
  intro T hT X
  obtain ⟨fs, hret, hrun, hended, hW, hframe⟩ := X.leave (v := some (.int 1)) (hlocks := hlocks) (fun h => by rw [hr] at h; cases h)
  have hmeth' : T.vm.method? m = some meth := X.method'
  refine ⟨T.setFrames fs, ?_, .returned (some (.int 1)), hrun, hended, rfl, ⟨_, rfl⟩, hW, hframe⟩
  jvm_step X.here [X.here.top, hx, hb, hdg, hmeth', hr, ret, narrow_b1]
  (try refine ⟨rfl, ?_⟩); (try refine ⟨rfl, ?_⟩)
  first | (intro acts; rw [hret _ acts rfl rfl rfl]) | rw [hret _ _ rfl rfl rfl]
  exact Steps.refl _
/-- what holds at the law's entry: the machine, the code, the tables' words (any of lw_tbl by 'hts w (by decide +kernel)'), the script of L ints xs at the cell b, what the Statement gives of the start (any of its parts by flat_of_before) -/
def lw_At (p : Program) (s : State) (m : MethodId) (meth : Method) (c : Code) (b L : Nat) (xs : Nat → Int32) : Prop :=
  p.tables.exec = Jvm.exec ∧ c.code = code ∧ meth.sig.returnType = ret ∧ c.maxLocals = 4 ∧ s.vm.findClass R_law = some m.cls ∧ (∀ w ∈ lw_tbl, w.before #[Value.ref b] s = true) ∧ va_X b L xs s s.heap ∧ b < s.heap.size ∧ meth.locks = false ∧ (Jvm.Cond.and given_1 narrow_1).before #[Value.ref b] s = true

/-- what stays through the law's loop -/
def lq_C (p : Program) (s : State) (m : MethodId) (meth : Method) (c : Code) (b L : Nat) (xs : Nat → Int32) (D : va_G) (ax : Nat → Nat) (cx : Nat → ClassId) (Lx : Nat → Nat) (am : Nat → Nat) (cm : Nat → ClassId) : Prop :=
  (lw_At p s m meth c b L xs ∧ L ≤ 452) ∧ va_K D vwCl (ax_T cx) s ∧ va_K D vwCl (am_T cm) s ∧ (∀ σ, va_D (ax_A ax) (ax_W ax cx Lx σ)) ∧ (∀ σ, va_D (am_A am) (am_W am cm σ)) ∧ (∀ q, ax_A ax q → s.heap.size ≤ q) ∧ (∀ q, am_A am q → s.heap.size ≤ q) ∧ (∀ q, ax_A ax q → ¬ am_A am q)
/-- the law comes to its end from a place, with both systems' states -/
def lq_K (p : Program) (l : Launch) (e : Env) (s : State) (m : MethodId) (below : List Frame) (meth : Method) (c : Code) (b : Nat) (D : va_G) (ax : Nat → Nat) (cx : Nat → ClassId) (Lx : Nat → Nat) (am : Nat → Nat) (cm : Nat → ClassId) (ux um : q_St) (i pc : Nat) : Prop :=
  ∀ (H : Heap) (locs : List Loc) (ls : Array Slot), va_P D vwCl (ax_W ax cx Lx ux) H → va_P D vwCl (am_W am cm um) H → va_S (fun q => s.heap.size ≤ q) s.heap H locs → lv_has ls 4 [(0, .ref b), (1, .ref (ax 0)), (2, .ref (am 0)), (3, .int (nI i))] → W p l e room_1 s m #[Value.ref b] below meth c H locs 600000 7302250 (lw_Z below #[Value.ref b] s) (F0 m pc ls [])
theorem lq_inx {a : Nat → Nat} {cI : Nat → ClassId} {L : Nat → Nat} {σ : q_St} (hD : ∀ σ, va_D (ax_A a) (ax_W a cI L σ)) : ∀ (k : Nat) (q : Nat × va_E), (ax_W a cI L σ)[k]? = some q → ax_A a q.1 := (hD σ).2
theorem lq_inm {a : Nat → Nat} {cI : Nat → ClassId} {σ : q_St} (hD : ∀ σ, va_D (am_A a) (am_W a cI σ)) : ∀ (k : Nat) (q : Nat × va_E), (am_W a cI σ)[k]? = some q → am_A a q.1 := (hD σ).2

set_option maxHeartbeats 4000000 in
set_option maxRecDepth 100000 in
theorem law_c0 {p : Program} {l : Launch} {e : Env} {s : State} {m : MethodId} {below : List Frame} {meth : Method} {c : Code} {b L : Nat} {xs : Nat → Int32} {D : va_G} {ax : Nat → Nat} {cx : Nat → ClassId} {Lx : Nat → Nat} {am : Nat → Nat} {cm : Nat → ClassId} (C0 : lq_C p s m meth c b L xs D ax cx Lx am cm) {N i : Nat} (hi : i + 7 ≤ L) {ux um vx vm : q_St} {r : Int32} (h1 : fX10_feed Lx N (xs (i + 1)) (xs (i + 2)) (xs (i + 3)) (xs (i + 4)) (xs (i + 5)) ux = some (r, vx)) (h2 : fX11_feed N (xs (i + 1)) (xs (i + 2)) (xs (i + 3)) (xs (i + 4)) (xs (i + 5)) um = some (r, vm)) (kk : lq_K p l e s m below meth c b D ax cx Lx am cm vx vm i 1469) : lq_K p l e s m below meth c b D ax cx Lx am cm ux um i 224 := by
  obtain ⟨⟨⟨hx, hb, hr, hml, hown, hts, hX, hbl, hlocks, hgv⟩, hL⟩, hKx, hKm, hDx, hDm, hAx, hAm, hxm⟩ := C0
  have hts : ∀ w ∈ q_T, w.before #[Value.ref b] s = true := fun w h => hts w (List.mem_filter.mp h).1
  have hbA : ¬ (fun q : Nat => s.heap.size ≤ q) b := Nat.not_le.mpr hbl
  intro H locs ls hPx hPm hS hl
  refine lv_aload_n hx hb dL_law_224 rfl (lv_at hl 1 rfl) ?_
  refine lv_aload_n hx hb dL_law_225 rfl (lv_at hl 0 rfl) ?_
  refine lv_iload_n hx hb dL_law_226 rfl (lv_at hl 3 rfl) ?_
  refine lv_iconst (v := 1) hx hb dL_law_227 (by decide) ?_
  refine lv_iadd hx hb dL_law_228 ?_
  refine lq_sld hx hb hX hbl hbA hS (j := 1) rfl (by omega) hL dL_law_229 ?_
  refine lv_aload_n hx hb dL_law_230 rfl (lv_at hl 0 rfl) ?_
  refine lv_iload_n hx hb dL_law_231 rfl (lv_at hl 3 rfl) ?_
  refine lv_iconst (v := 2) hx hb dL_law_232 (by decide) ?_
  refine lv_iadd hx hb dL_law_233 ?_
  refine lq_sld hx hb hX hbl hbA hS (j := 2) rfl (by omega) hL dL_law_234 ?_
  refine lv_aload_n hx hb dL_law_235 rfl (lv_at hl 0 rfl) ?_
  refine lv_iload_n hx hb dL_law_236 rfl (lv_at hl 3 rfl) ?_
  refine lv_iconst (v := 3) hx hb dL_law_237 (by decide) ?_
  refine lv_iadd hx hb dL_law_238 ?_
  refine lq_sld hx hb hX hbl hbA hS (j := 3) rfl (by omega) hL dL_law_239 ?_
  refine lv_aload_n hx hb dL_law_240 rfl (lv_at hl 0 rfl) ?_
  refine lv_iload_n hx hb dL_law_241 rfl (lv_at hl 3 rfl) ?_
  refine lv_iconst (v := 4) hx hb dL_law_242 (by decide) ?_
  refine lv_iadd hx hb dL_law_243 ?_
  refine lq_sld hx hb hX hbl hbA hS (j := 4) rfl (by omega) hL dL_law_244 ?_
  refine lv_aload_n hx hb dL_law_245 rfl (lv_at hl 0 rfl) ?_
  refine lv_iload_n hx hb dL_law_246 rfl (lv_at hl 3 rfl) ?_
  refine lv_iconst (v := 5) hx hb dL_law_247 (by decide) ?_
  refine lv_iadd hx hb dL_law_248 ?_
  refine lq_sld hx hb hX hbl hbA hS (j := 5) rfl (by omega) hL dL_law_249 ?_
  refine lq_ci (Wd := ax_W ax cx Lx) (σ1 := vx) (lq_runV (Wd := ax_W ax cx Lx) (σ := ux) (q0 := 0) (ci := 10) (T := TX10) (N := 11) (As := [.int (xs (i + 1)), .int (xs (i + 2)), .int (xs (i + 3)), .int (xs (i + 4)), .int (xs (i + 5))]) (rest := []) hx hb hml hown hts hKx hPx (kt_X10_feed hDx h1) cw_L_21 rfl rfl ⟨Nat.le_of_ble_eq_true rfl, Nat.le_of_ble_eq_true rfl⟩ rfl rfl rfl hl.1 rfl (Nat.le_of_ble_eq_true rfl) dL_law_250 ⟨Nat.le_refl _, Nat.le_refl _⟩) hS hAx hPm (fun k q h z => hxm _ z (lq_inm hDm k q h)) (fun H locs hPx hPm hS => ?_)
  refine lv_aload_n hx hb dL_law_253 rfl (lv_at hl 2 rfl) ?_
  refine lv_aload_n hx hb dL_law_254 rfl (lv_at hl 0 rfl) ?_
  refine lv_iload_n hx hb dL_law_255 rfl (lv_at hl 3 rfl) ?_
  refine lv_iconst (v := 1) hx hb dL_law_256 (by decide) ?_
  refine lv_iadd hx hb dL_law_257 ?_
  refine lq_sld hx hb hX hbl hbA hS (j := 1) rfl (by omega) hL dL_law_258 ?_
  refine lv_aload_n hx hb dL_law_259 rfl (lv_at hl 0 rfl) ?_
  refine lv_iload_n hx hb dL_law_260 rfl (lv_at hl 3 rfl) ?_
  refine lv_iconst (v := 2) hx hb dL_law_261 (by decide) ?_
  refine lv_iadd hx hb dL_law_262 ?_
  refine lq_sld hx hb hX hbl hbA hS (j := 2) rfl (by omega) hL dL_law_263 ?_
  refine lv_aload_n hx hb dL_law_264 rfl (lv_at hl 0 rfl) ?_
  refine lv_iload_n hx hb dL_law_265 rfl (lv_at hl 3 rfl) ?_
  refine lv_iconst (v := 3) hx hb dL_law_266 (by decide) ?_
  refine lv_iadd hx hb dL_law_267 ?_
  refine lq_sld hx hb hX hbl hbA hS (j := 3) rfl (by omega) hL dL_law_268 ?_
  refine lv_aload_n hx hb dL_law_269 rfl (lv_at hl 0 rfl) ?_
  refine lv_iload_n hx hb dL_law_270 rfl (lv_at hl 3 rfl) ?_
  refine lv_iconst (v := 4) hx hb dL_law_271 (by decide) ?_
  refine lv_iadd hx hb dL_law_272 ?_
  refine lq_sld hx hb hX hbl hbA hS (j := 4) rfl (by omega) hL dL_law_273 ?_
  refine lv_aload_n hx hb dL_law_274 rfl (lv_at hl 0 rfl) ?_
  refine lv_iload_n hx hb dL_law_275 rfl (lv_at hl 3 rfl) ?_
  refine lv_iconst (v := 5) hx hb dL_law_276 (by decide) ?_
  refine lv_iadd hx hb dL_law_277 ?_
  refine lq_sld hx hb hX hbl hbA hS (j := 5) rfl (by omega) hL dL_law_278 ?_
  refine lq_ci (Wd := am_W am cm) (σ1 := vm) (lq_runV (Wd := am_W am cm) (σ := um) (q0 := 0) (ci := 11) (T := TX11) (N := 72) (As := [.int (xs (i + 1)), .int (xs (i + 2)), .int (xs (i + 3)), .int (xs (i + 4)), .int (xs (i + 5))]) (rest := [.int r]) hx hb hml hown hts hKm hPm (kt_X11_feed hDm h2) cw_L_25 rfl rfl ⟨Nat.le_of_ble_eq_true rfl, Nat.le_of_ble_eq_true rfl⟩ rfl rfl rfl hl.1 rfl (Nat.le_of_ble_eq_true rfl) dL_law_279 ⟨Nat.le_refl _, Nat.le_refl _⟩) hS hAm hPx (fun k q h z => hxm _ (lq_inx hDx k q h) z) (fun H locs hPm hPx hS => ?_)
  refine lv_icmp_eq (tgt := 1469) hx hb dL_law_282 (by decide) (fun _ => ?_) (fun h => absurd rfl h)
  exact kk _ _ _ hPx hPm hS hl
set_option maxHeartbeats 4000000 in
set_option maxRecDepth 100000 in
theorem law_c1 {p : Program} {l : Launch} {e : Env} {s : State} {m : MethodId} {below : List Frame} {meth : Method} {c : Code} {b L : Nat} {xs : Nat → Int32} {D : va_G} {ax : Nat → Nat} {cx : Nat → ClassId} {Lx : Nat → Nat} {am : Nat → Nat} {cm : Nat → ClassId} (C0 : lq_C p s m meth c b L xs D ax cx Lx am cm) {N i : Nat} (hi : i + 7 ≤ L) {ux um vx vm : q_St} {r : Int32} (h1 : fX10_end Lx N (xs (i + 1)) ux = some (r, vx)) (h2 : fX11_end N (xs (i + 1)) um = some (r, vm)) (kk : lq_K p l e s m below meth c b D ax cx Lx am cm vx vm i 1469) : lq_K p l e s m below meth c b D ax cx Lx am cm ux um i 287 := by
  obtain ⟨⟨⟨hx, hb, hr, hml, hown, hts, hX, hbl, hlocks, hgv⟩, hL⟩, hKx, hKm, hDx, hDm, hAx, hAm, hxm⟩ := C0
  have hts : ∀ w ∈ q_T, w.before #[Value.ref b] s = true := fun w h => hts w (List.mem_filter.mp h).1
  have hbA : ¬ (fun q : Nat => s.heap.size ≤ q) b := Nat.not_le.mpr hbl
  intro H locs ls hPx hPm hS hl
  refine lv_aload_n hx hb dL_law_287 rfl (lv_at hl 1 rfl) ?_
  refine lv_aload_n hx hb dL_law_288 rfl (lv_at hl 0 rfl) ?_
  refine lv_iload_n hx hb dL_law_289 rfl (lv_at hl 3 rfl) ?_
  refine lv_iconst (v := 1) hx hb dL_law_290 (by decide) ?_
  refine lv_iadd hx hb dL_law_291 ?_
  refine lq_sld hx hb hX hbl hbA hS (j := 1) rfl (by omega) hL dL_law_292 ?_
  refine lq_ci (Wd := ax_W ax cx Lx) (σ1 := vx) (lq_runV (Wd := ax_W ax cx Lx) (σ := ux) (q0 := 0) (ci := 10) (T := TX10) (N := 11) (As := [.int (xs (i + 1))]) (rest := []) hx hb hml hown hts hKx hPx (kt_X10_end hDx h1) cw_L_26 rfl rfl ⟨Nat.le_of_ble_eq_true rfl, Nat.le_of_ble_eq_true rfl⟩ rfl rfl rfl hl.1 rfl (Nat.le_of_ble_eq_true rfl) dL_law_293 ⟨Nat.le_refl _, Nat.le_refl _⟩) hS hAx hPm (fun k q h z => hxm _ z (lq_inm hDm k q h)) (fun H locs hPx hPm hS => ?_)
  refine lv_aload_n hx hb dL_law_296 rfl (lv_at hl 2 rfl) ?_
  refine lv_aload_n hx hb dL_law_297 rfl (lv_at hl 0 rfl) ?_
  refine lv_iload_n hx hb dL_law_298 rfl (lv_at hl 3 rfl) ?_
  refine lv_iconst (v := 1) hx hb dL_law_299 (by decide) ?_
  refine lv_iadd hx hb dL_law_300 ?_
  refine lq_sld hx hb hX hbl hbA hS (j := 1) rfl (by omega) hL dL_law_301 ?_
  refine lq_ci (Wd := am_W am cm) (σ1 := vm) (lq_runV (Wd := am_W am cm) (σ := um) (q0 := 0) (ci := 11) (T := TX11) (N := 72) (As := [.int (xs (i + 1))]) (rest := [.int r]) hx hb hml hown hts hKm hPm (kt_X11_end hDm h2) cw_L_30 rfl rfl ⟨Nat.le_of_ble_eq_true rfl, Nat.le_of_ble_eq_true rfl⟩ rfl rfl rfl hl.1 rfl (Nat.le_of_ble_eq_true rfl) dL_law_302 ⟨Nat.le_refl _, Nat.le_refl _⟩) hS hAm hPx (fun k q h z => hxm _ (lq_inx hDx k q h) z) (fun H locs hPm hPx hS => ?_)
  refine lv_icmp_eq (tgt := 1469) hx hb dL_law_305 (by decide) (fun _ => ?_) (fun h => absurd rfl h)
  exact kk _ _ _ hPx hPm hS hl
set_option maxHeartbeats 4000000 in
set_option maxRecDepth 100000 in
theorem law_c2 {p : Program} {l : Launch} {e : Env} {s : State} {m : MethodId} {below : List Frame} {meth : Method} {c : Code} {b L : Nat} {xs : Nat → Int32} {D : va_G} {ax : Nat → Nat} {cx : Nat → ClassId} {Lx : Nat → Nat} {am : Nat → Nat} {cm : Nat → ClassId} (C0 : lq_C p s m meth c b L xs D ax cx Lx am cm) {N i : Nat} (hi : i + 7 ≤ L) {ux um vx vm : q_St} {r : Int32} (h1 : fX10_as Lx N (xs (i + 1)) ux = some (r, vx)) (h2 : fX11_as N (xs (i + 1)) um = some (r, vm)) (kk : lq_K p l e s m below meth c b D ax cx Lx am cm vx vm i 1469) : lq_K p l e s m below meth c b D ax cx Lx am cm ux um i 310 := by
  obtain ⟨⟨⟨hx, hb, hr, hml, hown, hts, hX, hbl, hlocks, hgv⟩, hL⟩, hKx, hKm, hDx, hDm, hAx, hAm, hxm⟩ := C0
  have hts : ∀ w ∈ q_T, w.before #[Value.ref b] s = true := fun w h => hts w (List.mem_filter.mp h).1
  have hbA : ¬ (fun q : Nat => s.heap.size ≤ q) b := Nat.not_le.mpr hbl
  intro H locs ls hPx hPm hS hl
  refine lv_aload_n hx hb dL_law_310 rfl (lv_at hl 1 rfl) ?_
  refine lv_aload_n hx hb dL_law_311 rfl (lv_at hl 0 rfl) ?_
  refine lv_iload_n hx hb dL_law_312 rfl (lv_at hl 3 rfl) ?_
  refine lv_iconst (v := 1) hx hb dL_law_313 (by decide) ?_
  refine lv_iadd hx hb dL_law_314 ?_
  refine lq_sld hx hb hX hbl hbA hS (j := 1) rfl (by omega) hL dL_law_315 ?_
  refine lq_ci (Wd := ax_W ax cx Lx) (σ1 := vx) (lq_runV (Wd := ax_W ax cx Lx) (σ := ux) (q0 := 0) (ci := 10) (T := TX10) (N := 11) (As := [.int (xs (i + 1))]) (rest := []) hx hb hml hown hts hKx hPx (kt_X10_as hDx h1) cw_L_31 rfl rfl ⟨Nat.le_of_ble_eq_true rfl, Nat.le_of_ble_eq_true rfl⟩ rfl rfl rfl hl.1 rfl (Nat.le_of_ble_eq_true rfl) dL_law_316 ⟨Nat.le_refl _, Nat.le_refl _⟩) hS hAx hPm (fun k q h z => hxm _ z (lq_inm hDm k q h)) (fun H locs hPx hPm hS => ?_)
  refine lv_aload_n hx hb dL_law_319 rfl (lv_at hl 2 rfl) ?_
  refine lv_aload_n hx hb dL_law_320 rfl (lv_at hl 0 rfl) ?_
  refine lv_iload_n hx hb dL_law_321 rfl (lv_at hl 3 rfl) ?_
  refine lv_iconst (v := 1) hx hb dL_law_322 (by decide) ?_
  refine lv_iadd hx hb dL_law_323 ?_
  refine lq_sld hx hb hX hbl hbA hS (j := 1) rfl (by omega) hL dL_law_324 ?_
  refine lq_ci (Wd := am_W am cm) (σ1 := vm) (lq_runV (Wd := am_W am cm) (σ := um) (q0 := 0) (ci := 11) (T := TX11) (N := 72) (As := [.int (xs (i + 1))]) (rest := [.int r]) hx hb hml hown hts hKm hPm (kt_X11_as hDm h2) cw_L_35 rfl rfl ⟨Nat.le_of_ble_eq_true rfl, Nat.le_of_ble_eq_true rfl⟩ rfl rfl rfl hl.1 rfl (Nat.le_of_ble_eq_true rfl) dL_law_325 ⟨Nat.le_refl _, Nat.le_refl _⟩) hS hAm hPx (fun k q h z => hxm _ (lq_inx hDx k q h) z) (fun H locs hPm hPx hS => ?_)
  refine lv_icmp_eq (tgt := 1469) hx hb dL_law_328 (by decide) (fun _ => ?_) (fun h => absurd rfl h)
  exact kk _ _ _ hPx hPm hS hl
set_option maxHeartbeats 4000000 in
set_option maxRecDepth 100000 in
theorem law_c3 {p : Program} {l : Launch} {e : Env} {s : State} {m : MethodId} {below : List Frame} {meth : Method} {c : Code} {b L : Nat} {xs : Nat → Int32} {D : va_G} {ax : Nat → Nat} {cx : Nat → ClassId} {Lx : Nat → Nat} {am : Nat → Nat} {cm : Nat → ClassId} (C0 : lq_C p s m meth c b L xs D ax cx Lx am cm) {N i : Nat} (hi : i + 7 ≤ L) {ux um vx vm : q_St} {r : Int32} (h1 : fX10_make Lx N (xs (i + 1)) ((q_lshl (Int32.toInt64 (xs (i + 2))) 32) ||| ((Int32.toInt64 (xs (i + 3))) &&& 4294967295)) ux = some (r, vx)) (h2 : fX11_make N (xs (i + 1)) ((q_lshl (Int32.toInt64 (xs (i + 2))) 32) ||| ((Int32.toInt64 (xs (i + 3))) &&& 4294967295)) um = some (r, vm)) (kk : lq_K p l e s m below meth c b D ax cx Lx am cm vx vm i 1469) : lq_K p l e s m below meth c b D ax cx Lx am cm ux um i 333 := by
  obtain ⟨⟨⟨hx, hb, hr, hml, hown, hts, hX, hbl, hlocks, hgv⟩, hL⟩, hKx, hKm, hDx, hDm, hAx, hAm, hxm⟩ := C0
  have hts : ∀ w ∈ q_T, w.before #[Value.ref b] s = true := fun w h => hts w (List.mem_filter.mp h).1
  have hbA : ¬ (fun q : Nat => s.heap.size ≤ q) b := Nat.not_le.mpr hbl
  intro H locs ls hPx hPm hS hl
  refine lv_aload_n hx hb dL_law_333 rfl (lv_at hl 1 rfl) ?_
  refine lv_aload_n hx hb dL_law_334 rfl (lv_at hl 0 rfl) ?_
  refine lv_iload_n hx hb dL_law_335 rfl (lv_at hl 3 rfl) ?_
  refine lv_iconst (v := 1) hx hb dL_law_336 (by decide) ?_
  refine lv_iadd hx hb dL_law_337 ?_
  refine lq_sld hx hb hX hbl hbA hS (j := 1) rfl (by omega) hL dL_law_338 ?_
  refine lv_aload_n hx hb dL_law_339 rfl (lv_at hl 0 rfl) ?_
  refine lv_iload_n hx hb dL_law_340 rfl (lv_at hl 3 rfl) ?_
  refine lv_iconst (v := 2) hx hb dL_law_341 (by decide) ?_
  refine lv_iadd hx hb dL_law_342 ?_
  refine lq_sld hx hb hX hbl hbA hS (j := 2) rfl (by omega) hL dL_law_343 ?_
  refine lv_i2l (v := Int32.toInt64 (xs (i + 2))) hx hb dL_law_344 rfl ?_
  refine lv_bipush (v := 32) hx hb dL_law_345 (by decide) ?_
  refine lv_lshl (v := q_lshl (Int32.toInt64 (xs (i + 2))) 32) hx hb dL_law_347 rfl ?_
  refine lv_aload_n hx hb dL_law_348 rfl (lv_at hl 0 rfl) ?_
  refine lv_iload_n hx hb dL_law_349 rfl (lv_at hl 3 rfl) ?_
  refine lv_iconst (v := 3) hx hb dL_law_350 (by decide) ?_
  refine lv_iadd hx hb dL_law_351 ?_
  refine lq_sld hx hb hX hbl hbA hS (j := 3) rfl (by omega) hL dL_law_352 ?_
  refine lv_i2l (v := Int32.toInt64 (xs (i + 3))) hx hb dL_law_353 rfl ?_
  refine lv_ldc2 (v := 4294967295) hx hb hown (hts _ kc_L_36) dL_law_354 ?_
  refine lv_land hx hb dL_law_357 ?_
  refine lv_lor hx hb dL_law_358 ?_
  refine lq_ci (Wd := ax_W ax cx Lx) (σ1 := vx) (lq_runV (Wd := ax_W ax cx Lx) (σ := ux) (q0 := 0) (ci := 10) (T := TX10) (N := 11) (As := [.int (xs (i + 1)), .long ((q_lshl (Int32.toInt64 (xs (i + 2))) 32) ||| ((Int32.toInt64 (xs (i + 3))) &&& 4294967295))]) (rest := []) hx hb hml hown hts hKx hPx (kt_X10_make hDx h1) cw_L_38 rfl rfl ⟨Nat.le_of_ble_eq_true rfl, Nat.le_of_ble_eq_true rfl⟩ rfl rfl rfl hl.1 rfl (Nat.le_of_ble_eq_true rfl) dL_law_359 ⟨Nat.le_refl _, Nat.le_refl _⟩) hS hAx hPm (fun k q h z => hxm _ z (lq_inm hDm k q h)) (fun H locs hPx hPm hS => ?_)
  refine lv_aload_n hx hb dL_law_362 rfl (lv_at hl 2 rfl) ?_
  refine lv_aload_n hx hb dL_law_363 rfl (lv_at hl 0 rfl) ?_
  refine lv_iload_n hx hb dL_law_364 rfl (lv_at hl 3 rfl) ?_
  refine lv_iconst (v := 1) hx hb dL_law_365 (by decide) ?_
  refine lv_iadd hx hb dL_law_366 ?_
  refine lq_sld hx hb hX hbl hbA hS (j := 1) rfl (by omega) hL dL_law_367 ?_
  refine lv_aload_n hx hb dL_law_368 rfl (lv_at hl 0 rfl) ?_
  refine lv_iload_n hx hb dL_law_369 rfl (lv_at hl 3 rfl) ?_
  refine lv_iconst (v := 2) hx hb dL_law_370 (by decide) ?_
  refine lv_iadd hx hb dL_law_371 ?_
  refine lq_sld hx hb hX hbl hbA hS (j := 2) rfl (by omega) hL dL_law_372 ?_
  refine lv_i2l (v := Int32.toInt64 (xs (i + 2))) hx hb dL_law_373 rfl ?_
  refine lv_bipush (v := 32) hx hb dL_law_374 (by decide) ?_
  refine lv_lshl (v := q_lshl (Int32.toInt64 (xs (i + 2))) 32) hx hb dL_law_376 rfl ?_
  refine lv_aload_n hx hb dL_law_377 rfl (lv_at hl 0 rfl) ?_
  refine lv_iload_n hx hb dL_law_378 rfl (lv_at hl 3 rfl) ?_
  refine lv_iconst (v := 3) hx hb dL_law_379 (by decide) ?_
  refine lv_iadd hx hb dL_law_380 ?_
  refine lq_sld hx hb hX hbl hbA hS (j := 3) rfl (by omega) hL dL_law_381 ?_
  refine lv_i2l (v := Int32.toInt64 (xs (i + 3))) hx hb dL_law_382 rfl ?_
  refine lv_ldc2 (v := 4294967295) hx hb hown (hts _ kc_L_36) dL_law_383 ?_
  refine lv_land hx hb dL_law_386 ?_
  refine lv_lor hx hb dL_law_387 ?_
  refine lq_ci (Wd := am_W am cm) (σ1 := vm) (lq_runV (Wd := am_W am cm) (σ := um) (q0 := 0) (ci := 11) (T := TX11) (N := 72) (As := [.int (xs (i + 1)), .long ((q_lshl (Int32.toInt64 (xs (i + 2))) 32) ||| ((Int32.toInt64 (xs (i + 3))) &&& 4294967295))]) (rest := [.int r]) hx hb hml hown hts hKm hPm (kt_X11_make hDm h2) cw_L_42 rfl rfl ⟨Nat.le_of_ble_eq_true rfl, Nat.le_of_ble_eq_true rfl⟩ rfl rfl rfl hl.1 rfl (Nat.le_of_ble_eq_true rfl) dL_law_388 ⟨Nat.le_refl _, Nat.le_refl _⟩) hS hAm hPx (fun k q h z => hxm _ (lq_inx hDx k q h) z) (fun H locs hPm hPx hS => ?_)
  refine lv_icmp_eq (tgt := 1469) hx hb dL_law_391 (by decide) (fun _ => ?_) (fun h => absurd rfl h)
  exact kk _ _ _ hPx hPm hS hl
set_option maxHeartbeats 4000000 in
set_option maxRecDepth 100000 in
theorem law_c4 {p : Program} {l : Launch} {e : Env} {s : State} {m : MethodId} {below : List Frame} {meth : Method} {c : Code} {b L : Nat} {xs : Nat → Int32} {D : va_G} {ax : Nat → Nat} {cx : Nat → ClassId} {Lx : Nat → Nat} {am : Nat → Nat} {cm : Nat → ClassId} (C0 : lq_C p s m meth c b L xs D ax cx Lx am cm) {N i : Nat} (hi : i + 7 ≤ L) {ux um vx vm : q_St} {r : Int32} (h1 : fX10_dir Lx N (xs (i + 1)) ((q_lshl (Int32.toInt64 (xs (i + 2))) 32) ||| ((Int32.toInt64 (xs (i + 3))) &&& 4294967295)) ux = some (r, vx)) (h2 : fX11_dir N (xs (i + 1)) ((q_lshl (Int32.toInt64 (xs (i + 2))) 32) ||| ((Int32.toInt64 (xs (i + 3))) &&& 4294967295)) um = some (r, vm)) (kk : lq_K p l e s m below meth c b D ax cx Lx am cm vx vm i 1469) : lq_K p l e s m below meth c b D ax cx Lx am cm ux um i 396 := by
  obtain ⟨⟨⟨hx, hb, hr, hml, hown, hts, hX, hbl, hlocks, hgv⟩, hL⟩, hKx, hKm, hDx, hDm, hAx, hAm, hxm⟩ := C0
  have hts : ∀ w ∈ q_T, w.before #[Value.ref b] s = true := fun w h => hts w (List.mem_filter.mp h).1
  have hbA : ¬ (fun q : Nat => s.heap.size ≤ q) b := Nat.not_le.mpr hbl
  intro H locs ls hPx hPm hS hl
  refine lv_aload_n hx hb dL_law_396 rfl (lv_at hl 1 rfl) ?_
  refine lv_aload_n hx hb dL_law_397 rfl (lv_at hl 0 rfl) ?_
  refine lv_iload_n hx hb dL_law_398 rfl (lv_at hl 3 rfl) ?_
  refine lv_iconst (v := 1) hx hb dL_law_399 (by decide) ?_
  refine lv_iadd hx hb dL_law_400 ?_
  refine lq_sld hx hb hX hbl hbA hS (j := 1) rfl (by omega) hL dL_law_401 ?_
  refine lv_aload_n hx hb dL_law_402 rfl (lv_at hl 0 rfl) ?_
  refine lv_iload_n hx hb dL_law_403 rfl (lv_at hl 3 rfl) ?_
  refine lv_iconst (v := 2) hx hb dL_law_404 (by decide) ?_
  refine lv_iadd hx hb dL_law_405 ?_
  refine lq_sld hx hb hX hbl hbA hS (j := 2) rfl (by omega) hL dL_law_406 ?_
  refine lv_i2l (v := Int32.toInt64 (xs (i + 2))) hx hb dL_law_407 rfl ?_
  refine lv_bipush (v := 32) hx hb dL_law_408 (by decide) ?_
  refine lv_lshl (v := q_lshl (Int32.toInt64 (xs (i + 2))) 32) hx hb dL_law_410 rfl ?_
  refine lv_aload_n hx hb dL_law_411 rfl (lv_at hl 0 rfl) ?_
  refine lv_iload_n hx hb dL_law_412 rfl (lv_at hl 3 rfl) ?_
  refine lv_iconst (v := 3) hx hb dL_law_413 (by decide) ?_
  refine lv_iadd hx hb dL_law_414 ?_
  refine lq_sld hx hb hX hbl hbA hS (j := 3) rfl (by omega) hL dL_law_415 ?_
  refine lv_i2l (v := Int32.toInt64 (xs (i + 3))) hx hb dL_law_416 rfl ?_
  refine lv_ldc2 (v := 4294967295) hx hb hown (hts _ kc_L_36) dL_law_417 ?_
  refine lv_land hx hb dL_law_420 ?_
  refine lv_lor hx hb dL_law_421 ?_
  refine lq_ci (Wd := ax_W ax cx Lx) (σ1 := vx) (lq_runV (Wd := ax_W ax cx Lx) (σ := ux) (q0 := 0) (ci := 10) (T := TX10) (N := 11) (As := [.int (xs (i + 1)), .long ((q_lshl (Int32.toInt64 (xs (i + 2))) 32) ||| ((Int32.toInt64 (xs (i + 3))) &&& 4294967295))]) (rest := []) hx hb hml hown hts hKx hPx (kt_X10_dir hDx h1) cw_L_43 rfl rfl ⟨Nat.le_of_ble_eq_true rfl, Nat.le_of_ble_eq_true rfl⟩ rfl rfl rfl hl.1 rfl (Nat.le_of_ble_eq_true rfl) dL_law_422 ⟨Nat.le_refl _, Nat.le_refl _⟩) hS hAx hPm (fun k q h z => hxm _ z (lq_inm hDm k q h)) (fun H locs hPx hPm hS => ?_)
  refine lv_aload_n hx hb dL_law_425 rfl (lv_at hl 2 rfl) ?_
  refine lv_aload_n hx hb dL_law_426 rfl (lv_at hl 0 rfl) ?_
  refine lv_iload_n hx hb dL_law_427 rfl (lv_at hl 3 rfl) ?_
  refine lv_iconst (v := 1) hx hb dL_law_428 (by decide) ?_
  refine lv_iadd hx hb dL_law_429 ?_
  refine lq_sld hx hb hX hbl hbA hS (j := 1) rfl (by omega) hL dL_law_430 ?_
  refine lv_aload_n hx hb dL_law_431 rfl (lv_at hl 0 rfl) ?_
  refine lv_iload_n hx hb dL_law_432 rfl (lv_at hl 3 rfl) ?_
  refine lv_iconst (v := 2) hx hb dL_law_433 (by decide) ?_
  refine lv_iadd hx hb dL_law_434 ?_
  refine lq_sld hx hb hX hbl hbA hS (j := 2) rfl (by omega) hL dL_law_435 ?_
  refine lv_i2l (v := Int32.toInt64 (xs (i + 2))) hx hb dL_law_436 rfl ?_
  refine lv_bipush (v := 32) hx hb dL_law_437 (by decide) ?_
  refine lv_lshl (v := q_lshl (Int32.toInt64 (xs (i + 2))) 32) hx hb dL_law_439 rfl ?_
  refine lv_aload_n hx hb dL_law_440 rfl (lv_at hl 0 rfl) ?_
  refine lv_iload_n hx hb dL_law_441 rfl (lv_at hl 3 rfl) ?_
  refine lv_iconst (v := 3) hx hb dL_law_442 (by decide) ?_
  refine lv_iadd hx hb dL_law_443 ?_
  refine lq_sld hx hb hX hbl hbA hS (j := 3) rfl (by omega) hL dL_law_444 ?_
  refine lv_i2l (v := Int32.toInt64 (xs (i + 3))) hx hb dL_law_445 rfl ?_
  refine lv_ldc2 (v := 4294967295) hx hb hown (hts _ kc_L_36) dL_law_446 ?_
  refine lv_land hx hb dL_law_449 ?_
  refine lv_lor hx hb dL_law_450 ?_
  refine lq_ci (Wd := am_W am cm) (σ1 := vm) (lq_runV (Wd := am_W am cm) (σ := um) (q0 := 0) (ci := 11) (T := TX11) (N := 72) (As := [.int (xs (i + 1)), .long ((q_lshl (Int32.toInt64 (xs (i + 2))) 32) ||| ((Int32.toInt64 (xs (i + 3))) &&& 4294967295))]) (rest := [.int r]) hx hb hml hown hts hKm hPm (kt_X11_dir hDm h2) cw_L_46 rfl rfl ⟨Nat.le_of_ble_eq_true rfl, Nat.le_of_ble_eq_true rfl⟩ rfl rfl rfl hl.1 rfl (Nat.le_of_ble_eq_true rfl) dL_law_451 ⟨Nat.le_refl _, Nat.le_refl _⟩) hS hAm hPx (fun k q h z => hxm _ (lq_inx hDx k q h) z) (fun H locs hPm hPx hS => ?_)
  refine lv_icmp_eq (tgt := 1469) hx hb dL_law_454 (by decide) (fun _ => ?_) (fun h => absurd rfl h)
  exact kk _ _ _ hPx hPm hS hl
set_option maxHeartbeats 4000000 in
set_option maxRecDepth 100000 in
theorem law_c5 {p : Program} {l : Launch} {e : Env} {s : State} {m : MethodId} {below : List Frame} {meth : Method} {c : Code} {b L : Nat} {xs : Nat → Int32} {D : va_G} {ax : Nat → Nat} {cx : Nat → ClassId} {Lx : Nat → Nat} {am : Nat → Nat} {cm : Nat → ClassId} (C0 : lq_C p s m meth c b L xs D ax cx Lx am cm) {N i : Nat} (hi : i + 7 ≤ L) {ux um vx vm : q_St} {r : Int32} (h1 : fX10_lay Lx N (xs (i + 1)) ((q_lshl (Int32.toInt64 (xs (i + 2))) 32) ||| ((Int32.toInt64 (xs (i + 3))) &&& 4294967295)) ux = some (r, vx)) (h2 : fX11_lay N (xs (i + 1)) ((q_lshl (Int32.toInt64 (xs (i + 2))) 32) ||| ((Int32.toInt64 (xs (i + 3))) &&& 4294967295)) um = some (r, vm)) (kk : lq_K p l e s m below meth c b D ax cx Lx am cm vx vm i 1469) : lq_K p l e s m below meth c b D ax cx Lx am cm ux um i 459 := by
  obtain ⟨⟨⟨hx, hb, hr, hml, hown, hts, hX, hbl, hlocks, hgv⟩, hL⟩, hKx, hKm, hDx, hDm, hAx, hAm, hxm⟩ := C0
  have hts : ∀ w ∈ q_T, w.before #[Value.ref b] s = true := fun w h => hts w (List.mem_filter.mp h).1
  have hbA : ¬ (fun q : Nat => s.heap.size ≤ q) b := Nat.not_le.mpr hbl
  intro H locs ls hPx hPm hS hl
  refine lv_aload_n hx hb dL_law_459 rfl (lv_at hl 1 rfl) ?_
  refine lv_aload_n hx hb dL_law_460 rfl (lv_at hl 0 rfl) ?_
  refine lv_iload_n hx hb dL_law_461 rfl (lv_at hl 3 rfl) ?_
  refine lv_iconst (v := 1) hx hb dL_law_462 (by decide) ?_
  refine lv_iadd hx hb dL_law_463 ?_
  refine lq_sld hx hb hX hbl hbA hS (j := 1) rfl (by omega) hL dL_law_464 ?_
  refine lv_aload_n hx hb dL_law_465 rfl (lv_at hl 0 rfl) ?_
  refine lv_iload_n hx hb dL_law_466 rfl (lv_at hl 3 rfl) ?_
  refine lv_iconst (v := 2) hx hb dL_law_467 (by decide) ?_
  refine lv_iadd hx hb dL_law_468 ?_
  refine lq_sld hx hb hX hbl hbA hS (j := 2) rfl (by omega) hL dL_law_469 ?_
  refine lv_i2l (v := Int32.toInt64 (xs (i + 2))) hx hb dL_law_470 rfl ?_
  refine lv_bipush (v := 32) hx hb dL_law_471 (by decide) ?_
  refine lv_lshl (v := q_lshl (Int32.toInt64 (xs (i + 2))) 32) hx hb dL_law_473 rfl ?_
  refine lv_aload_n hx hb dL_law_474 rfl (lv_at hl 0 rfl) ?_
  refine lv_iload_n hx hb dL_law_475 rfl (lv_at hl 3 rfl) ?_
  refine lv_iconst (v := 3) hx hb dL_law_476 (by decide) ?_
  refine lv_iadd hx hb dL_law_477 ?_
  refine lq_sld hx hb hX hbl hbA hS (j := 3) rfl (by omega) hL dL_law_478 ?_
  refine lv_i2l (v := Int32.toInt64 (xs (i + 3))) hx hb dL_law_479 rfl ?_
  refine lv_ldc2 (v := 4294967295) hx hb hown (hts _ kc_L_36) dL_law_480 ?_
  refine lv_land hx hb dL_law_483 ?_
  refine lv_lor hx hb dL_law_484 ?_
  refine lq_ci (Wd := ax_W ax cx Lx) (σ1 := vx) (lq_runV (Wd := ax_W ax cx Lx) (σ := ux) (q0 := 0) (ci := 10) (T := TX10) (N := 11) (As := [.int (xs (i + 1)), .long ((q_lshl (Int32.toInt64 (xs (i + 2))) 32) ||| ((Int32.toInt64 (xs (i + 3))) &&& 4294967295))]) (rest := []) hx hb hml hown hts hKx hPx (kt_X10_lay hDx h1) cw_L_47 rfl rfl ⟨Nat.le_of_ble_eq_true rfl, Nat.le_of_ble_eq_true rfl⟩ rfl rfl rfl hl.1 rfl (Nat.le_of_ble_eq_true rfl) dL_law_485 ⟨Nat.le_refl _, Nat.le_refl _⟩) hS hAx hPm (fun k q h z => hxm _ z (lq_inm hDm k q h)) (fun H locs hPx hPm hS => ?_)
  refine lv_aload_n hx hb dL_law_488 rfl (lv_at hl 2 rfl) ?_
  refine lv_aload_n hx hb dL_law_489 rfl (lv_at hl 0 rfl) ?_
  refine lv_iload_n hx hb dL_law_490 rfl (lv_at hl 3 rfl) ?_
  refine lv_iconst (v := 1) hx hb dL_law_491 (by decide) ?_
  refine lv_iadd hx hb dL_law_492 ?_
  refine lq_sld hx hb hX hbl hbA hS (j := 1) rfl (by omega) hL dL_law_493 ?_
  refine lv_aload_n hx hb dL_law_494 rfl (lv_at hl 0 rfl) ?_
  refine lv_iload_n hx hb dL_law_495 rfl (lv_at hl 3 rfl) ?_
  refine lv_iconst (v := 2) hx hb dL_law_496 (by decide) ?_
  refine lv_iadd hx hb dL_law_497 ?_
  refine lq_sld hx hb hX hbl hbA hS (j := 2) rfl (by omega) hL dL_law_498 ?_
  refine lv_i2l (v := Int32.toInt64 (xs (i + 2))) hx hb dL_law_499 rfl ?_
  refine lv_bipush (v := 32) hx hb dL_law_500 (by decide) ?_
  refine lv_lshl (v := q_lshl (Int32.toInt64 (xs (i + 2))) 32) hx hb dL_law_502 rfl ?_
  refine lv_aload_n hx hb dL_law_503 rfl (lv_at hl 0 rfl) ?_
  refine lv_iload_n hx hb dL_law_504 rfl (lv_at hl 3 rfl) ?_
  refine lv_iconst (v := 3) hx hb dL_law_505 (by decide) ?_
  refine lv_iadd hx hb dL_law_506 ?_
  refine lq_sld hx hb hX hbl hbA hS (j := 3) rfl (by omega) hL dL_law_507 ?_
  refine lv_i2l (v := Int32.toInt64 (xs (i + 3))) hx hb dL_law_508 rfl ?_
  refine lv_ldc2 (v := 4294967295) hx hb hown (hts _ kc_L_36) dL_law_509 ?_
  refine lv_land hx hb dL_law_512 ?_
  refine lv_lor hx hb dL_law_513 ?_
  refine lq_ci (Wd := am_W am cm) (σ1 := vm) (lq_runV (Wd := am_W am cm) (σ := um) (q0 := 0) (ci := 11) (T := TX11) (N := 72) (As := [.int (xs (i + 1)), .long ((q_lshl (Int32.toInt64 (xs (i + 2))) 32) ||| ((Int32.toInt64 (xs (i + 3))) &&& 4294967295))]) (rest := [.int r]) hx hb hml hown hts hKm hPm (kt_X11_lay hDm h2) cw_L_50 rfl rfl ⟨Nat.le_of_ble_eq_true rfl, Nat.le_of_ble_eq_true rfl⟩ rfl rfl rfl hl.1 rfl (Nat.le_of_ble_eq_true rfl) dL_law_514 ⟨Nat.le_refl _, Nat.le_refl _⟩) hS hAm hPx (fun k q h z => hxm _ (lq_inx hDx k q h) z) (fun H locs hPm hPx hS => ?_)
  refine lv_icmp_eq (tgt := 1469) hx hb dL_law_517 (by decide) (fun _ => ?_) (fun h => absurd rfl h)
  exact kk _ _ _ hPx hPm hS hl
set_option maxHeartbeats 4000000 in
set_option maxRecDepth 100000 in
theorem law_c6 {p : Program} {l : Launch} {e : Env} {s : State} {m : MethodId} {below : List Frame} {meth : Method} {c : Code} {b L : Nat} {xs : Nat → Int32} {D : va_G} {ax : Nat → Nat} {cx : Nat → ClassId} {Lx : Nat → Nat} {am : Nat → Nat} {cm : Nat → ClassId} (C0 : lq_C p s m meth c b L xs D ax cx Lx am cm) {N i : Nat} (hi : i + 7 ≤ L) {ux um vx vm : q_St} {r : Int32} (h1 : fX10_point Lx N (xs (i + 1)) ((q_lshl (Int32.toInt64 (xs (i + 2))) 32) ||| ((Int32.toInt64 (xs (i + 3))) &&& 4294967295)) ux = some (r, vx)) (h2 : fX11_point N (xs (i + 1)) ((q_lshl (Int32.toInt64 (xs (i + 2))) 32) ||| ((Int32.toInt64 (xs (i + 3))) &&& 4294967295)) um = some (r, vm)) (kk : lq_K p l e s m below meth c b D ax cx Lx am cm vx vm i 1469) : lq_K p l e s m below meth c b D ax cx Lx am cm ux um i 522 := by
  obtain ⟨⟨⟨hx, hb, hr, hml, hown, hts, hX, hbl, hlocks, hgv⟩, hL⟩, hKx, hKm, hDx, hDm, hAx, hAm, hxm⟩ := C0
  have hts : ∀ w ∈ q_T, w.before #[Value.ref b] s = true := fun w h => hts w (List.mem_filter.mp h).1
  have hbA : ¬ (fun q : Nat => s.heap.size ≤ q) b := Nat.not_le.mpr hbl
  intro H locs ls hPx hPm hS hl
  refine lv_aload_n hx hb dL_law_522 rfl (lv_at hl 1 rfl) ?_
  refine lv_aload_n hx hb dL_law_523 rfl (lv_at hl 0 rfl) ?_
  refine lv_iload_n hx hb dL_law_524 rfl (lv_at hl 3 rfl) ?_
  refine lv_iconst (v := 1) hx hb dL_law_525 (by decide) ?_
  refine lv_iadd hx hb dL_law_526 ?_
  refine lq_sld hx hb hX hbl hbA hS (j := 1) rfl (by omega) hL dL_law_527 ?_
  refine lv_aload_n hx hb dL_law_528 rfl (lv_at hl 0 rfl) ?_
  refine lv_iload_n hx hb dL_law_529 rfl (lv_at hl 3 rfl) ?_
  refine lv_iconst (v := 2) hx hb dL_law_530 (by decide) ?_
  refine lv_iadd hx hb dL_law_531 ?_
  refine lq_sld hx hb hX hbl hbA hS (j := 2) rfl (by omega) hL dL_law_532 ?_
  refine lv_i2l (v := Int32.toInt64 (xs (i + 2))) hx hb dL_law_533 rfl ?_
  refine lv_bipush (v := 32) hx hb dL_law_534 (by decide) ?_
  refine lv_lshl (v := q_lshl (Int32.toInt64 (xs (i + 2))) 32) hx hb dL_law_536 rfl ?_
  refine lv_aload_n hx hb dL_law_537 rfl (lv_at hl 0 rfl) ?_
  refine lv_iload_n hx hb dL_law_538 rfl (lv_at hl 3 rfl) ?_
  refine lv_iconst (v := 3) hx hb dL_law_539 (by decide) ?_
  refine lv_iadd hx hb dL_law_540 ?_
  refine lq_sld hx hb hX hbl hbA hS (j := 3) rfl (by omega) hL dL_law_541 ?_
  refine lv_i2l (v := Int32.toInt64 (xs (i + 3))) hx hb dL_law_542 rfl ?_
  refine lv_ldc2 (v := 4294967295) hx hb hown (hts _ kc_L_36) dL_law_543 ?_
  refine lv_land hx hb dL_law_546 ?_
  refine lv_lor hx hb dL_law_547 ?_
  refine lq_ci (Wd := ax_W ax cx Lx) (σ1 := vx) (lq_runV (Wd := ax_W ax cx Lx) (σ := ux) (q0 := 0) (ci := 10) (T := TX10) (N := 11) (As := [.int (xs (i + 1)), .long ((q_lshl (Int32.toInt64 (xs (i + 2))) 32) ||| ((Int32.toInt64 (xs (i + 3))) &&& 4294967295))]) (rest := []) hx hb hml hown hts hKx hPx (kt_X10_point hDx h1) cw_L_51 rfl rfl ⟨Nat.le_of_ble_eq_true rfl, Nat.le_of_ble_eq_true rfl⟩ rfl rfl rfl hl.1 rfl (Nat.le_of_ble_eq_true rfl) dL_law_548 ⟨Nat.le_refl _, Nat.le_refl _⟩) hS hAx hPm (fun k q h z => hxm _ z (lq_inm hDm k q h)) (fun H locs hPx hPm hS => ?_)
  refine lv_aload_n hx hb dL_law_551 rfl (lv_at hl 2 rfl) ?_
  refine lv_aload_n hx hb dL_law_552 rfl (lv_at hl 0 rfl) ?_
  refine lv_iload_n hx hb dL_law_553 rfl (lv_at hl 3 rfl) ?_
  refine lv_iconst (v := 1) hx hb dL_law_554 (by decide) ?_
  refine lv_iadd hx hb dL_law_555 ?_
  refine lq_sld hx hb hX hbl hbA hS (j := 1) rfl (by omega) hL dL_law_556 ?_
  refine lv_aload_n hx hb dL_law_557 rfl (lv_at hl 0 rfl) ?_
  refine lv_iload_n hx hb dL_law_558 rfl (lv_at hl 3 rfl) ?_
  refine lv_iconst (v := 2) hx hb dL_law_559 (by decide) ?_
  refine lv_iadd hx hb dL_law_560 ?_
  refine lq_sld hx hb hX hbl hbA hS (j := 2) rfl (by omega) hL dL_law_561 ?_
  refine lv_i2l (v := Int32.toInt64 (xs (i + 2))) hx hb dL_law_562 rfl ?_
  refine lv_bipush (v := 32) hx hb dL_law_563 (by decide) ?_
  refine lv_lshl (v := q_lshl (Int32.toInt64 (xs (i + 2))) 32) hx hb dL_law_565 rfl ?_
  refine lv_aload_n hx hb dL_law_566 rfl (lv_at hl 0 rfl) ?_
  refine lv_iload_n hx hb dL_law_567 rfl (lv_at hl 3 rfl) ?_
  refine lv_iconst (v := 3) hx hb dL_law_568 (by decide) ?_
  refine lv_iadd hx hb dL_law_569 ?_
  refine lq_sld hx hb hX hbl hbA hS (j := 3) rfl (by omega) hL dL_law_570 ?_
  refine lv_i2l (v := Int32.toInt64 (xs (i + 3))) hx hb dL_law_571 rfl ?_
  refine lv_ldc2 (v := 4294967295) hx hb hown (hts _ kc_L_36) dL_law_572 ?_
  refine lv_land hx hb dL_law_575 ?_
  refine lv_lor hx hb dL_law_576 ?_
  refine lq_ci (Wd := am_W am cm) (σ1 := vm) (lq_runV (Wd := am_W am cm) (σ := um) (q0 := 0) (ci := 11) (T := TX11) (N := 72) (As := [.int (xs (i + 1)), .long ((q_lshl (Int32.toInt64 (xs (i + 2))) 32) ||| ((Int32.toInt64 (xs (i + 3))) &&& 4294967295))]) (rest := [.int r]) hx hb hml hown hts hKm hPm (kt_X11_point hDm h2) cw_L_54 rfl rfl ⟨Nat.le_of_ble_eq_true rfl, Nat.le_of_ble_eq_true rfl⟩ rfl rfl rfl hl.1 rfl (Nat.le_of_ble_eq_true rfl) dL_law_577 ⟨Nat.le_refl _, Nat.le_refl _⟩) hS hAm hPx (fun k q h z => hxm _ (lq_inx hDx k q h) z) (fun H locs hPm hPx hS => ?_)
  refine lv_icmp_eq (tgt := 1469) hx hb dL_law_580 (by decide) (fun _ => ?_) (fun h => absurd rfl h)
  exact kk _ _ _ hPx hPm hS hl
set_option maxHeartbeats 4000000 in
set_option maxRecDepth 100000 in
theorem law_c7 {p : Program} {l : Launch} {e : Env} {s : State} {m : MethodId} {below : List Frame} {meth : Method} {c : Code} {b L : Nat} {xs : Nat → Int32} {D : va_G} {ax : Nat → Nat} {cx : Nat → ClassId} {Lx : Nat → Nat} {am : Nat → Nat} {cm : Nat → ClassId} (C0 : lq_C p s m meth c b L xs D ax cx Lx am cm) {N i : Nat} (hi : i + 7 ≤ L) {ux um vx vm : q_St} {r : Int32} (h1 : fX10_link Lx N (xs (i + 1)) ((q_lshl (Int32.toInt64 (xs (i + 2))) 32) ||| ((Int32.toInt64 (xs (i + 3))) &&& 4294967295)) (xs (i + 4)) ux = some (r, vx)) (h2 : fX11_link N (xs (i + 1)) ((q_lshl (Int32.toInt64 (xs (i + 2))) 32) ||| ((Int32.toInt64 (xs (i + 3))) &&& 4294967295)) (xs (i + 4)) um = some (r, vm)) (kk : lq_K p l e s m below meth c b D ax cx Lx am cm vx vm i 1469) : lq_K p l e s m below meth c b D ax cx Lx am cm ux um i 585 := by
  obtain ⟨⟨⟨hx, hb, hr, hml, hown, hts, hX, hbl, hlocks, hgv⟩, hL⟩, hKx, hKm, hDx, hDm, hAx, hAm, hxm⟩ := C0
  have hts : ∀ w ∈ q_T, w.before #[Value.ref b] s = true := fun w h => hts w (List.mem_filter.mp h).1
  have hbA : ¬ (fun q : Nat => s.heap.size ≤ q) b := Nat.not_le.mpr hbl
  intro H locs ls hPx hPm hS hl
  refine lv_aload_n hx hb dL_law_585 rfl (lv_at hl 1 rfl) ?_
  refine lv_aload_n hx hb dL_law_586 rfl (lv_at hl 0 rfl) ?_
  refine lv_iload_n hx hb dL_law_587 rfl (lv_at hl 3 rfl) ?_
  refine lv_iconst (v := 1) hx hb dL_law_588 (by decide) ?_
  refine lv_iadd hx hb dL_law_589 ?_
  refine lq_sld hx hb hX hbl hbA hS (j := 1) rfl (by omega) hL dL_law_590 ?_
  refine lv_aload_n hx hb dL_law_591 rfl (lv_at hl 0 rfl) ?_
  refine lv_iload_n hx hb dL_law_592 rfl (lv_at hl 3 rfl) ?_
  refine lv_iconst (v := 2) hx hb dL_law_593 (by decide) ?_
  refine lv_iadd hx hb dL_law_594 ?_
  refine lq_sld hx hb hX hbl hbA hS (j := 2) rfl (by omega) hL dL_law_595 ?_
  refine lv_i2l (v := Int32.toInt64 (xs (i + 2))) hx hb dL_law_596 rfl ?_
  refine lv_bipush (v := 32) hx hb dL_law_597 (by decide) ?_
  refine lv_lshl (v := q_lshl (Int32.toInt64 (xs (i + 2))) 32) hx hb dL_law_599 rfl ?_
  refine lv_aload_n hx hb dL_law_600 rfl (lv_at hl 0 rfl) ?_
  refine lv_iload_n hx hb dL_law_601 rfl (lv_at hl 3 rfl) ?_
  refine lv_iconst (v := 3) hx hb dL_law_602 (by decide) ?_
  refine lv_iadd hx hb dL_law_603 ?_
  refine lq_sld hx hb hX hbl hbA hS (j := 3) rfl (by omega) hL dL_law_604 ?_
  refine lv_i2l (v := Int32.toInt64 (xs (i + 3))) hx hb dL_law_605 rfl ?_
  refine lv_ldc2 (v := 4294967295) hx hb hown (hts _ kc_L_36) dL_law_606 ?_
  refine lv_land hx hb dL_law_609 ?_
  refine lv_lor hx hb dL_law_610 ?_
  refine lv_aload_n hx hb dL_law_611 rfl (lv_at hl 0 rfl) ?_
  refine lv_iload_n hx hb dL_law_612 rfl (lv_at hl 3 rfl) ?_
  refine lv_iconst (v := 4) hx hb dL_law_613 (by decide) ?_
  refine lv_iadd hx hb dL_law_614 ?_
  refine lq_sld hx hb hX hbl hbA hS (j := 4) rfl (by omega) hL dL_law_615 ?_
  refine lq_ci (Wd := ax_W ax cx Lx) (σ1 := vx) (lq_runV (Wd := ax_W ax cx Lx) (σ := ux) (q0 := 0) (ci := 10) (T := TX10) (N := 11) (As := [.int (xs (i + 1)), .long ((q_lshl (Int32.toInt64 (xs (i + 2))) 32) ||| ((Int32.toInt64 (xs (i + 3))) &&& 4294967295)), .int (xs (i + 4))]) (rest := []) hx hb hml hown hts hKx hPx (kt_X10_link hDx h1) cw_L_55 rfl rfl ⟨Nat.le_of_ble_eq_true rfl, Nat.le_of_ble_eq_true rfl⟩ rfl rfl rfl hl.1 rfl (Nat.le_of_ble_eq_true rfl) dL_law_616 ⟨Nat.le_refl _, Nat.le_refl _⟩) hS hAx hPm (fun k q h z => hxm _ z (lq_inm hDm k q h)) (fun H locs hPx hPm hS => ?_)
  refine lv_aload_n hx hb dL_law_619 rfl (lv_at hl 2 rfl) ?_
  refine lv_aload_n hx hb dL_law_620 rfl (lv_at hl 0 rfl) ?_
  refine lv_iload_n hx hb dL_law_621 rfl (lv_at hl 3 rfl) ?_
  refine lv_iconst (v := 1) hx hb dL_law_622 (by decide) ?_
  refine lv_iadd hx hb dL_law_623 ?_
  refine lq_sld hx hb hX hbl hbA hS (j := 1) rfl (by omega) hL dL_law_624 ?_
  refine lv_aload_n hx hb dL_law_625 rfl (lv_at hl 0 rfl) ?_
  refine lv_iload_n hx hb dL_law_626 rfl (lv_at hl 3 rfl) ?_
  refine lv_iconst (v := 2) hx hb dL_law_627 (by decide) ?_
  refine lv_iadd hx hb dL_law_628 ?_
  refine lq_sld hx hb hX hbl hbA hS (j := 2) rfl (by omega) hL dL_law_629 ?_
  refine lv_i2l (v := Int32.toInt64 (xs (i + 2))) hx hb dL_law_630 rfl ?_
  refine lv_bipush (v := 32) hx hb dL_law_631 (by decide) ?_
  refine lv_lshl (v := q_lshl (Int32.toInt64 (xs (i + 2))) 32) hx hb dL_law_633 rfl ?_
  refine lv_aload_n hx hb dL_law_634 rfl (lv_at hl 0 rfl) ?_
  refine lv_iload_n hx hb dL_law_635 rfl (lv_at hl 3 rfl) ?_
  refine lv_iconst (v := 3) hx hb dL_law_636 (by decide) ?_
  refine lv_iadd hx hb dL_law_637 ?_
  refine lq_sld hx hb hX hbl hbA hS (j := 3) rfl (by omega) hL dL_law_638 ?_
  refine lv_i2l (v := Int32.toInt64 (xs (i + 3))) hx hb dL_law_639 rfl ?_
  refine lv_ldc2 (v := 4294967295) hx hb hown (hts _ kc_L_36) dL_law_640 ?_
  refine lv_land hx hb dL_law_643 ?_
  refine lv_lor hx hb dL_law_644 ?_
  refine lv_aload_n hx hb dL_law_645 rfl (lv_at hl 0 rfl) ?_
  refine lv_iload_n hx hb dL_law_646 rfl (lv_at hl 3 rfl) ?_
  refine lv_iconst (v := 4) hx hb dL_law_647 (by decide) ?_
  refine lv_iadd hx hb dL_law_648 ?_
  refine lq_sld hx hb hX hbl hbA hS (j := 4) rfl (by omega) hL dL_law_649 ?_
  refine lq_ci (Wd := am_W am cm) (σ1 := vm) (lq_runV (Wd := am_W am cm) (σ := um) (q0 := 0) (ci := 11) (T := TX11) (N := 72) (As := [.int (xs (i + 1)), .long ((q_lshl (Int32.toInt64 (xs (i + 2))) 32) ||| ((Int32.toInt64 (xs (i + 3))) &&& 4294967295)), .int (xs (i + 4))]) (rest := [.int r]) hx hb hml hown hts hKm hPm (kt_X11_link hDm h2) cw_L_59 rfl rfl ⟨Nat.le_of_ble_eq_true rfl, Nat.le_of_ble_eq_true rfl⟩ rfl rfl rfl hl.1 rfl (Nat.le_of_ble_eq_true rfl) dL_law_650 ⟨Nat.le_refl _, Nat.le_refl _⟩) hS hAm hPx (fun k q h z => hxm _ (lq_inx hDx k q h) z) (fun H locs hPm hPx hS => ?_)
  refine lv_icmp_eq (tgt := 1469) hx hb dL_law_653 (by decide) (fun _ => ?_) (fun h => absurd rfl h)
  exact kk _ _ _ hPx hPm hS hl
set_option maxHeartbeats 4000000 in
set_option maxRecDepth 100000 in
theorem law_c8 {p : Program} {l : Launch} {e : Env} {s : State} {m : MethodId} {below : List Frame} {meth : Method} {c : Code} {b L : Nat} {xs : Nat → Int32} {D : va_G} {ax : Nat → Nat} {cx : Nat → ClassId} {Lx : Nat → Nat} {am : Nat → Nat} {cm : Nat → ClassId} (C0 : lq_C p s m meth c b L xs D ax cx Lx am cm) {N i : Nat} (hi : i + 7 ≤ L) {ux um vx vm : q_St} {r : Int32} (h1 : fX10_put Lx N (xs (i + 1)) (xs (i + 2)) ux = some (r, vx)) (h2 : fX11_put N (xs (i + 1)) (xs (i + 2)) um = some (r, vm)) (kk : lq_K p l e s m below meth c b D ax cx Lx am cm vx vm i 1469) : lq_K p l e s m below meth c b D ax cx Lx am cm ux um i 658 := by
  obtain ⟨⟨⟨hx, hb, hr, hml, hown, hts, hX, hbl, hlocks, hgv⟩, hL⟩, hKx, hKm, hDx, hDm, hAx, hAm, hxm⟩ := C0
  have hts : ∀ w ∈ q_T, w.before #[Value.ref b] s = true := fun w h => hts w (List.mem_filter.mp h).1
  have hbA : ¬ (fun q : Nat => s.heap.size ≤ q) b := Nat.not_le.mpr hbl
  intro H locs ls hPx hPm hS hl
  refine lv_aload_n hx hb dL_law_658 rfl (lv_at hl 1 rfl) ?_
  refine lv_aload_n hx hb dL_law_659 rfl (lv_at hl 0 rfl) ?_
  refine lv_iload_n hx hb dL_law_660 rfl (lv_at hl 3 rfl) ?_
  refine lv_iconst (v := 1) hx hb dL_law_661 (by decide) ?_
  refine lv_iadd hx hb dL_law_662 ?_
  refine lq_sld hx hb hX hbl hbA hS (j := 1) rfl (by omega) hL dL_law_663 ?_
  refine lv_aload_n hx hb dL_law_664 rfl (lv_at hl 0 rfl) ?_
  refine lv_iload_n hx hb dL_law_665 rfl (lv_at hl 3 rfl) ?_
  refine lv_iconst (v := 2) hx hb dL_law_666 (by decide) ?_
  refine lv_iadd hx hb dL_law_667 ?_
  refine lq_sld hx hb hX hbl hbA hS (j := 2) rfl (by omega) hL dL_law_668 ?_
  refine lq_ci (Wd := ax_W ax cx Lx) (σ1 := vx) (lq_runV (Wd := ax_W ax cx Lx) (σ := ux) (q0 := 0) (ci := 10) (T := TX10) (N := 11) (As := [.int (xs (i + 1)), .int (xs (i + 2))]) (rest := []) hx hb hml hown hts hKx hPx (kt_X10_put hDx h1) cw_L_60 rfl rfl ⟨Nat.le_of_ble_eq_true rfl, Nat.le_of_ble_eq_true rfl⟩ rfl rfl rfl hl.1 rfl (Nat.le_of_ble_eq_true rfl) dL_law_669 ⟨Nat.le_refl _, Nat.le_refl _⟩) hS hAx hPm (fun k q h z => hxm _ z (lq_inm hDm k q h)) (fun H locs hPx hPm hS => ?_)
  refine lv_aload_n hx hb dL_law_672 rfl (lv_at hl 2 rfl) ?_
  refine lv_aload_n hx hb dL_law_673 rfl (lv_at hl 0 rfl) ?_
  refine lv_iload_n hx hb dL_law_674 rfl (lv_at hl 3 rfl) ?_
  refine lv_iconst (v := 1) hx hb dL_law_675 (by decide) ?_
  refine lv_iadd hx hb dL_law_676 ?_
  refine lq_sld hx hb hX hbl hbA hS (j := 1) rfl (by omega) hL dL_law_677 ?_
  refine lv_aload_n hx hb dL_law_678 rfl (lv_at hl 0 rfl) ?_
  refine lv_iload_n hx hb dL_law_679 rfl (lv_at hl 3 rfl) ?_
  refine lv_iconst (v := 2) hx hb dL_law_680 (by decide) ?_
  refine lv_iadd hx hb dL_law_681 ?_
  refine lq_sld hx hb hX hbl hbA hS (j := 2) rfl (by omega) hL dL_law_682 ?_
  refine lq_ci (Wd := am_W am cm) (σ1 := vm) (lq_runV (Wd := am_W am cm) (σ := um) (q0 := 0) (ci := 11) (T := TX11) (N := 72) (As := [.int (xs (i + 1)), .int (xs (i + 2))]) (rest := [.int r]) hx hb hml hown hts hKm hPm (kt_X11_put hDm h2) cw_L_64 rfl rfl ⟨Nat.le_of_ble_eq_true rfl, Nat.le_of_ble_eq_true rfl⟩ rfl rfl rfl hl.1 rfl (Nat.le_of_ble_eq_true rfl) dL_law_683 ⟨Nat.le_refl _, Nat.le_refl _⟩) hS hAm hPx (fun k q h z => hxm _ (lq_inx hDx k q h) z) (fun H locs hPm hPx hS => ?_)
  refine lv_icmp_eq (tgt := 1469) hx hb dL_law_686 (by decide) (fun _ => ?_) (fun h => absurd rfl h)
  exact kk _ _ _ hPx hPm hS hl
set_option maxHeartbeats 4000000 in
set_option maxRecDepth 100000 in
theorem law_c9 {p : Program} {l : Launch} {e : Env} {s : State} {m : MethodId} {below : List Frame} {meth : Method} {c : Code} {b L : Nat} {xs : Nat → Int32} {D : va_G} {ax : Nat → Nat} {cx : Nat → ClassId} {Lx : Nat → Nat} {am : Nat → Nat} {cm : Nat → ClassId} (C0 : lq_C p s m meth c b L xs D ax cx Lx am cm) {N i : Nat} (hi : i + 7 ≤ L) {ux um vx vm : q_St} {r : Int32} (h1 : fX10_cut Lx N (xs (i + 1)) (xs (i + 2)) ux = some (r, vx)) (h2 : fX11_cut N (xs (i + 1)) (xs (i + 2)) um = some (r, vm)) (kk : lq_K p l e s m below meth c b D ax cx Lx am cm vx vm i 1469) : lq_K p l e s m below meth c b D ax cx Lx am cm ux um i 691 := by
  obtain ⟨⟨⟨hx, hb, hr, hml, hown, hts, hX, hbl, hlocks, hgv⟩, hL⟩, hKx, hKm, hDx, hDm, hAx, hAm, hxm⟩ := C0
  have hts : ∀ w ∈ q_T, w.before #[Value.ref b] s = true := fun w h => hts w (List.mem_filter.mp h).1
  have hbA : ¬ (fun q : Nat => s.heap.size ≤ q) b := Nat.not_le.mpr hbl
  intro H locs ls hPx hPm hS hl
  refine lv_aload_n hx hb dL_law_691 rfl (lv_at hl 1 rfl) ?_
  refine lv_aload_n hx hb dL_law_692 rfl (lv_at hl 0 rfl) ?_
  refine lv_iload_n hx hb dL_law_693 rfl (lv_at hl 3 rfl) ?_
  refine lv_iconst (v := 1) hx hb dL_law_694 (by decide) ?_
  refine lv_iadd hx hb dL_law_695 ?_
  refine lq_sld hx hb hX hbl hbA hS (j := 1) rfl (by omega) hL dL_law_696 ?_
  refine lv_aload_n hx hb dL_law_697 rfl (lv_at hl 0 rfl) ?_
  refine lv_iload_n hx hb dL_law_698 rfl (lv_at hl 3 rfl) ?_
  refine lv_iconst (v := 2) hx hb dL_law_699 (by decide) ?_
  refine lv_iadd hx hb dL_law_700 ?_
  refine lq_sld hx hb hX hbl hbA hS (j := 2) rfl (by omega) hL dL_law_701 ?_
  refine lq_ci (Wd := ax_W ax cx Lx) (σ1 := vx) (lq_runV (Wd := ax_W ax cx Lx) (σ := ux) (q0 := 0) (ci := 10) (T := TX10) (N := 11) (As := [.int (xs (i + 1)), .int (xs (i + 2))]) (rest := []) hx hb hml hown hts hKx hPx (kt_X10_cut hDx h1) cw_L_65 rfl rfl ⟨Nat.le_of_ble_eq_true rfl, Nat.le_of_ble_eq_true rfl⟩ rfl rfl rfl hl.1 rfl (Nat.le_of_ble_eq_true rfl) dL_law_702 ⟨Nat.le_refl _, Nat.le_refl _⟩) hS hAx hPm (fun k q h z => hxm _ z (lq_inm hDm k q h)) (fun H locs hPx hPm hS => ?_)
  refine lv_aload_n hx hb dL_law_705 rfl (lv_at hl 2 rfl) ?_
  refine lv_aload_n hx hb dL_law_706 rfl (lv_at hl 0 rfl) ?_
  refine lv_iload_n hx hb dL_law_707 rfl (lv_at hl 3 rfl) ?_
  refine lv_iconst (v := 1) hx hb dL_law_708 (by decide) ?_
  refine lv_iadd hx hb dL_law_709 ?_
  refine lq_sld hx hb hX hbl hbA hS (j := 1) rfl (by omega) hL dL_law_710 ?_
  refine lv_aload_n hx hb dL_law_711 rfl (lv_at hl 0 rfl) ?_
  refine lv_iload_n hx hb dL_law_712 rfl (lv_at hl 3 rfl) ?_
  refine lv_iconst (v := 2) hx hb dL_law_713 (by decide) ?_
  refine lv_iadd hx hb dL_law_714 ?_
  refine lq_sld hx hb hX hbl hbA hS (j := 2) rfl (by omega) hL dL_law_715 ?_
  refine lq_ci (Wd := am_W am cm) (σ1 := vm) (lq_runV (Wd := am_W am cm) (σ := um) (q0 := 0) (ci := 11) (T := TX11) (N := 72) (As := [.int (xs (i + 1)), .int (xs (i + 2))]) (rest := [.int r]) hx hb hml hown hts hKm hPm (kt_X11_cut hDm h2) cw_L_68 rfl rfl ⟨Nat.le_of_ble_eq_true rfl, Nat.le_of_ble_eq_true rfl⟩ rfl rfl rfl hl.1 rfl (Nat.le_of_ble_eq_true rfl) dL_law_716 ⟨Nat.le_refl _, Nat.le_refl _⟩) hS hAm hPx (fun k q h z => hxm _ (lq_inx hDx k q h) z) (fun H locs hPm hPx hS => ?_)
  refine lv_icmp_eq (tgt := 1469) hx hb dL_law_719 (by decide) (fun _ => ?_) (fun h => absurd rfl h)
  exact kk _ _ _ hPx hPm hS hl
set_option maxHeartbeats 4000000 in
set_option maxRecDepth 100000 in
theorem law_c10 {p : Program} {l : Launch} {e : Env} {s : State} {m : MethodId} {below : List Frame} {meth : Method} {c : Code} {b L : Nat} {xs : Nat → Int32} {D : va_G} {ax : Nat → Nat} {cx : Nat → ClassId} {Lx : Nat → Nat} {am : Nat → Nat} {cm : Nat → ClassId} (C0 : lq_C p s m meth c b L xs D ax cx Lx am cm) {N i : Nat} (hi : i + 7 ≤ L) {ux um vx vm : q_St} {r : Int32} (h1 : fX10_drop Lx N (xs (i + 1)) ((q_lshl (Int32.toInt64 (xs (i + 2))) 32) ||| ((Int32.toInt64 (xs (i + 3))) &&& 4294967295)) ux = some (r, vx)) (h2 : fX11_drop N (xs (i + 1)) ((q_lshl (Int32.toInt64 (xs (i + 2))) 32) ||| ((Int32.toInt64 (xs (i + 3))) &&& 4294967295)) um = some (r, vm)) (kk : lq_K p l e s m below meth c b D ax cx Lx am cm vx vm i 1469) : lq_K p l e s m below meth c b D ax cx Lx am cm ux um i 724 := by
  obtain ⟨⟨⟨hx, hb, hr, hml, hown, hts, hX, hbl, hlocks, hgv⟩, hL⟩, hKx, hKm, hDx, hDm, hAx, hAm, hxm⟩ := C0
  have hts : ∀ w ∈ q_T, w.before #[Value.ref b] s = true := fun w h => hts w (List.mem_filter.mp h).1
  have hbA : ¬ (fun q : Nat => s.heap.size ≤ q) b := Nat.not_le.mpr hbl
  intro H locs ls hPx hPm hS hl
  refine lv_aload_n hx hb dL_law_724 rfl (lv_at hl 1 rfl) ?_
  refine lv_aload_n hx hb dL_law_725 rfl (lv_at hl 0 rfl) ?_
  refine lv_iload_n hx hb dL_law_726 rfl (lv_at hl 3 rfl) ?_
  refine lv_iconst (v := 1) hx hb dL_law_727 (by decide) ?_
  refine lv_iadd hx hb dL_law_728 ?_
  refine lq_sld hx hb hX hbl hbA hS (j := 1) rfl (by omega) hL dL_law_729 ?_
  refine lv_aload_n hx hb dL_law_730 rfl (lv_at hl 0 rfl) ?_
  refine lv_iload_n hx hb dL_law_731 rfl (lv_at hl 3 rfl) ?_
  refine lv_iconst (v := 2) hx hb dL_law_732 (by decide) ?_
  refine lv_iadd hx hb dL_law_733 ?_
  refine lq_sld hx hb hX hbl hbA hS (j := 2) rfl (by omega) hL dL_law_734 ?_
  refine lv_i2l (v := Int32.toInt64 (xs (i + 2))) hx hb dL_law_735 rfl ?_
  refine lv_bipush (v := 32) hx hb dL_law_736 (by decide) ?_
  refine lv_lshl (v := q_lshl (Int32.toInt64 (xs (i + 2))) 32) hx hb dL_law_738 rfl ?_
  refine lv_aload_n hx hb dL_law_739 rfl (lv_at hl 0 rfl) ?_
  refine lv_iload_n hx hb dL_law_740 rfl (lv_at hl 3 rfl) ?_
  refine lv_iconst (v := 3) hx hb dL_law_741 (by decide) ?_
  refine lv_iadd hx hb dL_law_742 ?_
  refine lq_sld hx hb hX hbl hbA hS (j := 3) rfl (by omega) hL dL_law_743 ?_
  refine lv_i2l (v := Int32.toInt64 (xs (i + 3))) hx hb dL_law_744 rfl ?_
  refine lv_ldc2 (v := 4294967295) hx hb hown (hts _ kc_L_36) dL_law_745 ?_
  refine lv_land hx hb dL_law_748 ?_
  refine lv_lor hx hb dL_law_749 ?_
  refine lq_ci (Wd := ax_W ax cx Lx) (σ1 := vx) (lq_runV (Wd := ax_W ax cx Lx) (σ := ux) (q0 := 0) (ci := 10) (T := TX10) (N := 11) (As := [.int (xs (i + 1)), .long ((q_lshl (Int32.toInt64 (xs (i + 2))) 32) ||| ((Int32.toInt64 (xs (i + 3))) &&& 4294967295))]) (rest := []) hx hb hml hown hts hKx hPx (kt_X10_drop hDx h1) cw_L_69 rfl rfl ⟨Nat.le_of_ble_eq_true rfl, Nat.le_of_ble_eq_true rfl⟩ rfl rfl rfl hl.1 rfl (Nat.le_of_ble_eq_true rfl) dL_law_750 ⟨Nat.le_refl _, Nat.le_refl _⟩) hS hAx hPm (fun k q h z => hxm _ z (lq_inm hDm k q h)) (fun H locs hPx hPm hS => ?_)
  refine lv_aload_n hx hb dL_law_753 rfl (lv_at hl 2 rfl) ?_
  refine lv_aload_n hx hb dL_law_754 rfl (lv_at hl 0 rfl) ?_
  refine lv_iload_n hx hb dL_law_755 rfl (lv_at hl 3 rfl) ?_
  refine lv_iconst (v := 1) hx hb dL_law_756 (by decide) ?_
  refine lv_iadd hx hb dL_law_757 ?_
  refine lq_sld hx hb hX hbl hbA hS (j := 1) rfl (by omega) hL dL_law_758 ?_
  refine lv_aload_n hx hb dL_law_759 rfl (lv_at hl 0 rfl) ?_
  refine lv_iload_n hx hb dL_law_760 rfl (lv_at hl 3 rfl) ?_
  refine lv_iconst (v := 2) hx hb dL_law_761 (by decide) ?_
  refine lv_iadd hx hb dL_law_762 ?_
  refine lq_sld hx hb hX hbl hbA hS (j := 2) rfl (by omega) hL dL_law_763 ?_
  refine lv_i2l (v := Int32.toInt64 (xs (i + 2))) hx hb dL_law_764 rfl ?_
  refine lv_bipush (v := 32) hx hb dL_law_765 (by decide) ?_
  refine lv_lshl (v := q_lshl (Int32.toInt64 (xs (i + 2))) 32) hx hb dL_law_767 rfl ?_
  refine lv_aload_n hx hb dL_law_768 rfl (lv_at hl 0 rfl) ?_
  refine lv_iload_n hx hb dL_law_769 rfl (lv_at hl 3 rfl) ?_
  refine lv_iconst (v := 3) hx hb dL_law_770 (by decide) ?_
  refine lv_iadd hx hb dL_law_771 ?_
  refine lq_sld hx hb hX hbl hbA hS (j := 3) rfl (by omega) hL dL_law_772 ?_
  refine lv_i2l (v := Int32.toInt64 (xs (i + 3))) hx hb dL_law_773 rfl ?_
  refine lv_ldc2 (v := 4294967295) hx hb hown (hts _ kc_L_36) dL_law_774 ?_
  refine lv_land hx hb dL_law_777 ?_
  refine lv_lor hx hb dL_law_778 ?_
  refine lq_ci (Wd := am_W am cm) (σ1 := vm) (lq_runV (Wd := am_W am cm) (σ := um) (q0 := 0) (ci := 11) (T := TX11) (N := 72) (As := [.int (xs (i + 1)), .long ((q_lshl (Int32.toInt64 (xs (i + 2))) 32) ||| ((Int32.toInt64 (xs (i + 3))) &&& 4294967295))]) (rest := [.int r]) hx hb hml hown hts hKm hPm (kt_X11_drop hDm h2) cw_L_72 rfl rfl ⟨Nat.le_of_ble_eq_true rfl, Nat.le_of_ble_eq_true rfl⟩ rfl rfl rfl hl.1 rfl (Nat.le_of_ble_eq_true rfl) dL_law_779 ⟨Nat.le_refl _, Nat.le_refl _⟩) hS hAm hPx (fun k q h z => hxm _ (lq_inx hDx k q h) z) (fun H locs hPm hPx hS => ?_)
  refine lv_icmp_eq (tgt := 1469) hx hb dL_law_782 (by decide) (fun _ => ?_) (fun h => absurd rfl h)
  exact kk _ _ _ hPx hPm hS hl
set_option maxHeartbeats 4000000 in
set_option maxRecDepth 100000 in
theorem law_c11 {p : Program} {l : Launch} {e : Env} {s : State} {m : MethodId} {below : List Frame} {meth : Method} {c : Code} {b L : Nat} {xs : Nat → Int32} {D : va_G} {ax : Nat → Nat} {cx : Nat → ClassId} {Lx : Nat → Nat} {am : Nat → Nat} {cm : Nat → ClassId} (C0 : lq_C p s m meth c b L xs D ax cx Lx am cm) {N i : Nat} (hi : i + 7 ≤ L) {ux um vx vm : q_St} {r : Int32} (h1 : fX10_rename Lx N (xs (i + 1)) ((q_lshl (Int32.toInt64 (xs (i + 2))) 32) ||| ((Int32.toInt64 (xs (i + 3))) &&& 4294967295)) (xs (i + 4)) ((q_lshl (Int32.toInt64 (xs (i + 5))) 32) ||| ((Int32.toInt64 (xs (i + 6))) &&& 4294967295)) ux = some (r, vx)) (h2 : fX11_rename N (xs (i + 1)) ((q_lshl (Int32.toInt64 (xs (i + 2))) 32) ||| ((Int32.toInt64 (xs (i + 3))) &&& 4294967295)) (xs (i + 4)) ((q_lshl (Int32.toInt64 (xs (i + 5))) 32) ||| ((Int32.toInt64 (xs (i + 6))) &&& 4294967295)) um = some (r, vm)) (kk : lq_K p l e s m below meth c b D ax cx Lx am cm vx vm i 1469) : lq_K p l e s m below meth c b D ax cx Lx am cm ux um i 787 := by
  obtain ⟨⟨⟨hx, hb, hr, hml, hown, hts, hX, hbl, hlocks, hgv⟩, hL⟩, hKx, hKm, hDx, hDm, hAx, hAm, hxm⟩ := C0
  have hts : ∀ w ∈ q_T, w.before #[Value.ref b] s = true := fun w h => hts w (List.mem_filter.mp h).1
  have hbA : ¬ (fun q : Nat => s.heap.size ≤ q) b := Nat.not_le.mpr hbl
  intro H locs ls hPx hPm hS hl
  refine lv_aload_n hx hb dL_law_787 rfl (lv_at hl 1 rfl) ?_
  refine lv_aload_n hx hb dL_law_788 rfl (lv_at hl 0 rfl) ?_
  refine lv_iload_n hx hb dL_law_789 rfl (lv_at hl 3 rfl) ?_
  refine lv_iconst (v := 1) hx hb dL_law_790 (by decide) ?_
  refine lv_iadd hx hb dL_law_791 ?_
  refine lq_sld hx hb hX hbl hbA hS (j := 1) rfl (by omega) hL dL_law_792 ?_
  refine lv_aload_n hx hb dL_law_793 rfl (lv_at hl 0 rfl) ?_
  refine lv_iload_n hx hb dL_law_794 rfl (lv_at hl 3 rfl) ?_
  refine lv_iconst (v := 2) hx hb dL_law_795 (by decide) ?_
  refine lv_iadd hx hb dL_law_796 ?_
  refine lq_sld hx hb hX hbl hbA hS (j := 2) rfl (by omega) hL dL_law_797 ?_
  refine lv_i2l (v := Int32.toInt64 (xs (i + 2))) hx hb dL_law_798 rfl ?_
  refine lv_bipush (v := 32) hx hb dL_law_799 (by decide) ?_
  refine lv_lshl (v := q_lshl (Int32.toInt64 (xs (i + 2))) 32) hx hb dL_law_801 rfl ?_
  refine lv_aload_n hx hb dL_law_802 rfl (lv_at hl 0 rfl) ?_
  refine lv_iload_n hx hb dL_law_803 rfl (lv_at hl 3 rfl) ?_
  refine lv_iconst (v := 3) hx hb dL_law_804 (by decide) ?_
  refine lv_iadd hx hb dL_law_805 ?_
  refine lq_sld hx hb hX hbl hbA hS (j := 3) rfl (by omega) hL dL_law_806 ?_
  refine lv_i2l (v := Int32.toInt64 (xs (i + 3))) hx hb dL_law_807 rfl ?_
  refine lv_ldc2 (v := 4294967295) hx hb hown (hts _ kc_L_36) dL_law_808 ?_
  refine lv_land hx hb dL_law_811 ?_
  refine lv_lor hx hb dL_law_812 ?_
  refine lv_aload_n hx hb dL_law_813 rfl (lv_at hl 0 rfl) ?_
  refine lv_iload_n hx hb dL_law_814 rfl (lv_at hl 3 rfl) ?_
  refine lv_iconst (v := 4) hx hb dL_law_815 (by decide) ?_
  refine lv_iadd hx hb dL_law_816 ?_
  refine lq_sld hx hb hX hbl hbA hS (j := 4) rfl (by omega) hL dL_law_817 ?_
  refine lv_aload_n hx hb dL_law_818 rfl (lv_at hl 0 rfl) ?_
  refine lv_iload_n hx hb dL_law_819 rfl (lv_at hl 3 rfl) ?_
  refine lv_iconst (v := 5) hx hb dL_law_820 (by decide) ?_
  refine lv_iadd hx hb dL_law_821 ?_
  refine lq_sld hx hb hX hbl hbA hS (j := 5) rfl (by omega) hL dL_law_822 ?_
  refine lv_i2l (v := Int32.toInt64 (xs (i + 5))) hx hb dL_law_823 rfl ?_
  refine lv_bipush (v := 32) hx hb dL_law_824 (by decide) ?_
  refine lv_lshl (v := q_lshl (Int32.toInt64 (xs (i + 5))) 32) hx hb dL_law_826 rfl ?_
  refine lv_aload_n hx hb dL_law_827 rfl (lv_at hl 0 rfl) ?_
  refine lv_iload_n hx hb dL_law_828 rfl (lv_at hl 3 rfl) ?_
  refine lv_bipush (v := 6) hx hb dL_law_829 (by decide) ?_
  refine lv_iadd hx hb dL_law_831 ?_
  refine lq_sld hx hb hX hbl hbA hS (j := 6) rfl (by omega) hL dL_law_832 ?_
  refine lv_i2l (v := Int32.toInt64 (xs (i + 6))) hx hb dL_law_833 rfl ?_
  refine lv_ldc2 (v := 4294967295) hx hb hown (hts _ kc_L_36) dL_law_834 ?_
  refine lv_land hx hb dL_law_837 ?_
  refine lv_lor hx hb dL_law_838 ?_
  refine lq_ci (Wd := ax_W ax cx Lx) (σ1 := vx) (lq_runV (Wd := ax_W ax cx Lx) (σ := ux) (q0 := 0) (ci := 10) (T := TX10) (N := 11) (As := [.int (xs (i + 1)), .long ((q_lshl (Int32.toInt64 (xs (i + 2))) 32) ||| ((Int32.toInt64 (xs (i + 3))) &&& 4294967295)), .int (xs (i + 4)), .long ((q_lshl (Int32.toInt64 (xs (i + 5))) 32) ||| ((Int32.toInt64 (xs (i + 6))) &&& 4294967295))]) (rest := []) hx hb hml hown hts hKx hPx (kt_X10_rename hDx h1) cw_L_73 rfl rfl ⟨Nat.le_of_ble_eq_true rfl, Nat.le_of_ble_eq_true rfl⟩ rfl rfl rfl hl.1 rfl (Nat.le_of_ble_eq_true rfl) dL_law_839 ⟨Nat.le_refl _, Nat.le_refl _⟩) hS hAx hPm (fun k q h z => hxm _ z (lq_inm hDm k q h)) (fun H locs hPx hPm hS => ?_)
  refine lv_aload_n hx hb dL_law_842 rfl (lv_at hl 2 rfl) ?_
  refine lv_aload_n hx hb dL_law_843 rfl (lv_at hl 0 rfl) ?_
  refine lv_iload_n hx hb dL_law_844 rfl (lv_at hl 3 rfl) ?_
  refine lv_iconst (v := 1) hx hb dL_law_845 (by decide) ?_
  refine lv_iadd hx hb dL_law_846 ?_
  refine lq_sld hx hb hX hbl hbA hS (j := 1) rfl (by omega) hL dL_law_847 ?_
  refine lv_aload_n hx hb dL_law_848 rfl (lv_at hl 0 rfl) ?_
  refine lv_iload_n hx hb dL_law_849 rfl (lv_at hl 3 rfl) ?_
  refine lv_iconst (v := 2) hx hb dL_law_850 (by decide) ?_
  refine lv_iadd hx hb dL_law_851 ?_
  refine lq_sld hx hb hX hbl hbA hS (j := 2) rfl (by omega) hL dL_law_852 ?_
  refine lv_i2l (v := Int32.toInt64 (xs (i + 2))) hx hb dL_law_853 rfl ?_
  refine lv_bipush (v := 32) hx hb dL_law_854 (by decide) ?_
  refine lv_lshl (v := q_lshl (Int32.toInt64 (xs (i + 2))) 32) hx hb dL_law_856 rfl ?_
  refine lv_aload_n hx hb dL_law_857 rfl (lv_at hl 0 rfl) ?_
  refine lv_iload_n hx hb dL_law_858 rfl (lv_at hl 3 rfl) ?_
  refine lv_iconst (v := 3) hx hb dL_law_859 (by decide) ?_
  refine lv_iadd hx hb dL_law_860 ?_
  refine lq_sld hx hb hX hbl hbA hS (j := 3) rfl (by omega) hL dL_law_861 ?_
  refine lv_i2l (v := Int32.toInt64 (xs (i + 3))) hx hb dL_law_862 rfl ?_
  refine lv_ldc2 (v := 4294967295) hx hb hown (hts _ kc_L_36) dL_law_863 ?_
  refine lv_land hx hb dL_law_866 ?_
  refine lv_lor hx hb dL_law_867 ?_
  refine lv_aload_n hx hb dL_law_868 rfl (lv_at hl 0 rfl) ?_
  refine lv_iload_n hx hb dL_law_869 rfl (lv_at hl 3 rfl) ?_
  refine lv_iconst (v := 4) hx hb dL_law_870 (by decide) ?_
  refine lv_iadd hx hb dL_law_871 ?_
  refine lq_sld hx hb hX hbl hbA hS (j := 4) rfl (by omega) hL dL_law_872 ?_
  refine lv_aload_n hx hb dL_law_873 rfl (lv_at hl 0 rfl) ?_
  refine lv_iload_n hx hb dL_law_874 rfl (lv_at hl 3 rfl) ?_
  refine lv_iconst (v := 5) hx hb dL_law_875 (by decide) ?_
  refine lv_iadd hx hb dL_law_876 ?_
  refine lq_sld hx hb hX hbl hbA hS (j := 5) rfl (by omega) hL dL_law_877 ?_
  refine lv_i2l (v := Int32.toInt64 (xs (i + 5))) hx hb dL_law_878 rfl ?_
  refine lv_bipush (v := 32) hx hb dL_law_879 (by decide) ?_
  refine lv_lshl (v := q_lshl (Int32.toInt64 (xs (i + 5))) 32) hx hb dL_law_881 rfl ?_
  refine lv_aload_n hx hb dL_law_882 rfl (lv_at hl 0 rfl) ?_
  refine lv_iload_n hx hb dL_law_883 rfl (lv_at hl 3 rfl) ?_
  refine lv_bipush (v := 6) hx hb dL_law_884 (by decide) ?_
  refine lv_iadd hx hb dL_law_886 ?_
  refine lq_sld hx hb hX hbl hbA hS (j := 6) rfl (by omega) hL dL_law_887 ?_
  refine lv_i2l (v := Int32.toInt64 (xs (i + 6))) hx hb dL_law_888 rfl ?_
  refine lv_ldc2 (v := 4294967295) hx hb hown (hts _ kc_L_36) dL_law_889 ?_
  refine lv_land hx hb dL_law_892 ?_
  refine lv_lor hx hb dL_law_893 ?_
  refine lq_ci (Wd := am_W am cm) (σ1 := vm) (lq_runV (Wd := am_W am cm) (σ := um) (q0 := 0) (ci := 11) (T := TX11) (N := 72) (As := [.int (xs (i + 1)), .long ((q_lshl (Int32.toInt64 (xs (i + 2))) 32) ||| ((Int32.toInt64 (xs (i + 3))) &&& 4294967295)), .int (xs (i + 4)), .long ((q_lshl (Int32.toInt64 (xs (i + 5))) 32) ||| ((Int32.toInt64 (xs (i + 6))) &&& 4294967295))]) (rest := [.int r]) hx hb hml hown hts hKm hPm (kt_X11_rename hDm h2) cw_L_77 rfl rfl ⟨Nat.le_of_ble_eq_true rfl, Nat.le_of_ble_eq_true rfl⟩ rfl rfl rfl hl.1 rfl (Nat.le_of_ble_eq_true rfl) dL_law_894 ⟨Nat.le_refl _, Nat.le_refl _⟩) hS hAm hPx (fun k q h z => hxm _ (lq_inx hDx k q h) z) (fun H locs hPm hPx hS => ?_)
  refine lv_icmp_eq (tgt := 1469) hx hb dL_law_897 (by decide) (fun _ => ?_) (fun h => absurd rfl h)
  exact kk _ _ _ hPx hPm hS hl
set_option maxHeartbeats 4000000 in
set_option maxRecDepth 100000 in
theorem law_c12 {p : Program} {l : Launch} {e : Env} {s : State} {m : MethodId} {below : List Frame} {meth : Method} {c : Code} {b L : Nat} {xs : Nat → Int32} {D : va_G} {ax : Nat → Nat} {cx : Nat → ClassId} {Lx : Nat → Nat} {am : Nat → Nat} {cm : Nat → ClassId} (C0 : lq_C p s m meth c b L xs D ax cx Lx am cm) {N i : Nat} (hi : i + 7 ≤ L) {ux um vx vm : q_St} {r : Int32} (h1 : fX10_find Lx N (xs (i + 1)) ((q_lshl (Int32.toInt64 (xs (i + 2))) 32) ||| ((Int32.toInt64 (xs (i + 3))) &&& 4294967295)) ux = some (r, vx)) (h2 : fX11_find N (xs (i + 1)) ((q_lshl (Int32.toInt64 (xs (i + 2))) 32) ||| ((Int32.toInt64 (xs (i + 3))) &&& 4294967295)) um = some (r, vm)) (kk : lq_K p l e s m below meth c b D ax cx Lx am cm vx vm i 1469) : lq_K p l e s m below meth c b D ax cx Lx am cm ux um i 902 := by
  obtain ⟨⟨⟨hx, hb, hr, hml, hown, hts, hX, hbl, hlocks, hgv⟩, hL⟩, hKx, hKm, hDx, hDm, hAx, hAm, hxm⟩ := C0
  have hts : ∀ w ∈ q_T, w.before #[Value.ref b] s = true := fun w h => hts w (List.mem_filter.mp h).1
  have hbA : ¬ (fun q : Nat => s.heap.size ≤ q) b := Nat.not_le.mpr hbl
  intro H locs ls hPx hPm hS hl
  refine lv_aload_n hx hb dL_law_902 rfl (lv_at hl 1 rfl) ?_
  refine lv_aload_n hx hb dL_law_903 rfl (lv_at hl 0 rfl) ?_
  refine lv_iload_n hx hb dL_law_904 rfl (lv_at hl 3 rfl) ?_
  refine lv_iconst (v := 1) hx hb dL_law_905 (by decide) ?_
  refine lv_iadd hx hb dL_law_906 ?_
  refine lq_sld hx hb hX hbl hbA hS (j := 1) rfl (by omega) hL dL_law_907 ?_
  refine lv_aload_n hx hb dL_law_908 rfl (lv_at hl 0 rfl) ?_
  refine lv_iload_n hx hb dL_law_909 rfl (lv_at hl 3 rfl) ?_
  refine lv_iconst (v := 2) hx hb dL_law_910 (by decide) ?_
  refine lv_iadd hx hb dL_law_911 ?_
  refine lq_sld hx hb hX hbl hbA hS (j := 2) rfl (by omega) hL dL_law_912 ?_
  refine lv_i2l (v := Int32.toInt64 (xs (i + 2))) hx hb dL_law_913 rfl ?_
  refine lv_bipush (v := 32) hx hb dL_law_914 (by decide) ?_
  refine lv_lshl (v := q_lshl (Int32.toInt64 (xs (i + 2))) 32) hx hb dL_law_916 rfl ?_
  refine lv_aload_n hx hb dL_law_917 rfl (lv_at hl 0 rfl) ?_
  refine lv_iload_n hx hb dL_law_918 rfl (lv_at hl 3 rfl) ?_
  refine lv_iconst (v := 3) hx hb dL_law_919 (by decide) ?_
  refine lv_iadd hx hb dL_law_920 ?_
  refine lq_sld hx hb hX hbl hbA hS (j := 3) rfl (by omega) hL dL_law_921 ?_
  refine lv_i2l (v := Int32.toInt64 (xs (i + 3))) hx hb dL_law_922 rfl ?_
  refine lv_ldc2 (v := 4294967295) hx hb hown (hts _ kc_L_36) dL_law_923 ?_
  refine lv_land hx hb dL_law_926 ?_
  refine lv_lor hx hb dL_law_927 ?_
  refine lq_ci (Wd := ax_W ax cx Lx) (σ1 := vx) (lq_runV (Wd := ax_W ax cx Lx) (σ := ux) (q0 := 0) (ci := 10) (T := TX10) (N := 11) (As := [.int (xs (i + 1)), .long ((q_lshl (Int32.toInt64 (xs (i + 2))) 32) ||| ((Int32.toInt64 (xs (i + 3))) &&& 4294967295))]) (rest := []) hx hb hml hown hts hKx hPx (kt_X10_find hDx h1) cw_L_78 rfl rfl ⟨Nat.le_of_ble_eq_true rfl, Nat.le_of_ble_eq_true rfl⟩ rfl rfl rfl hl.1 rfl (Nat.le_of_ble_eq_true rfl) dL_law_928 ⟨Nat.le_refl _, Nat.le_refl _⟩) hS hAx hPm (fun k q h z => hxm _ z (lq_inm hDm k q h)) (fun H locs hPx hPm hS => ?_)
  refine lv_aload_n hx hb dL_law_931 rfl (lv_at hl 2 rfl) ?_
  refine lv_aload_n hx hb dL_law_932 rfl (lv_at hl 0 rfl) ?_
  refine lv_iload_n hx hb dL_law_933 rfl (lv_at hl 3 rfl) ?_
  refine lv_iconst (v := 1) hx hb dL_law_934 (by decide) ?_
  refine lv_iadd hx hb dL_law_935 ?_
  refine lq_sld hx hb hX hbl hbA hS (j := 1) rfl (by omega) hL dL_law_936 ?_
  refine lv_aload_n hx hb dL_law_937 rfl (lv_at hl 0 rfl) ?_
  refine lv_iload_n hx hb dL_law_938 rfl (lv_at hl 3 rfl) ?_
  refine lv_iconst (v := 2) hx hb dL_law_939 (by decide) ?_
  refine lv_iadd hx hb dL_law_940 ?_
  refine lq_sld hx hb hX hbl hbA hS (j := 2) rfl (by omega) hL dL_law_941 ?_
  refine lv_i2l (v := Int32.toInt64 (xs (i + 2))) hx hb dL_law_942 rfl ?_
  refine lv_bipush (v := 32) hx hb dL_law_943 (by decide) ?_
  refine lv_lshl (v := q_lshl (Int32.toInt64 (xs (i + 2))) 32) hx hb dL_law_945 rfl ?_
  refine lv_aload_n hx hb dL_law_946 rfl (lv_at hl 0 rfl) ?_
  refine lv_iload_n hx hb dL_law_947 rfl (lv_at hl 3 rfl) ?_
  refine lv_iconst (v := 3) hx hb dL_law_948 (by decide) ?_
  refine lv_iadd hx hb dL_law_949 ?_
  refine lq_sld hx hb hX hbl hbA hS (j := 3) rfl (by omega) hL dL_law_950 ?_
  refine lv_i2l (v := Int32.toInt64 (xs (i + 3))) hx hb dL_law_951 rfl ?_
  refine lv_ldc2 (v := 4294967295) hx hb hown (hts _ kc_L_36) dL_law_952 ?_
  refine lv_land hx hb dL_law_955 ?_
  refine lv_lor hx hb dL_law_956 ?_
  refine lq_ci (Wd := am_W am cm) (σ1 := vm) (lq_runV (Wd := am_W am cm) (σ := um) (q0 := 0) (ci := 11) (T := TX11) (N := 72) (As := [.int (xs (i + 1)), .long ((q_lshl (Int32.toInt64 (xs (i + 2))) 32) ||| ((Int32.toInt64 (xs (i + 3))) &&& 4294967295))]) (rest := [.int r]) hx hb hml hown hts hKm hPm (kt_X11_find hDm h2) cw_L_81 rfl rfl ⟨Nat.le_of_ble_eq_true rfl, Nat.le_of_ble_eq_true rfl⟩ rfl rfl rfl hl.1 rfl (Nat.le_of_ble_eq_true rfl) dL_law_957 ⟨Nat.le_refl _, Nat.le_refl _⟩) hS hAm hPx (fun k q h z => hxm _ (lq_inx hDx k q h) z) (fun H locs hPm hPx hS => ?_)
  refine lv_icmp_eq (tgt := 1469) hx hb dL_law_960 (by decide) (fun _ => ?_) (fun h => absurd rfl h)
  exact kk _ _ _ hPx hPm hS hl
set_option maxHeartbeats 4000000 in
set_option maxRecDepth 100000 in
theorem law_c13 {p : Program} {l : Launch} {e : Env} {s : State} {m : MethodId} {below : List Frame} {meth : Method} {c : Code} {b L : Nat} {xs : Nat → Int32} {D : va_G} {ax : Nat → Nat} {cx : Nat → ClassId} {Lx : Nat → Nat} {am : Nat → Nat} {cm : Nat → ClassId} (C0 : lq_C p s m meth c b L xs D ax cx Lx am cm) {N i : Nat} (hi : i + 7 ≤ L) {ux um vx vm : q_St} {r : Int32} (h1 : fX10_walk Lx N (xs (i + 1)) ux = some (r, vx)) (h2 : fX11_walk N (xs (i + 1)) um = some (r, vm)) (kk : lq_K p l e s m below meth c b D ax cx Lx am cm vx vm i 1469) : lq_K p l e s m below meth c b D ax cx Lx am cm ux um i 965 := by
  obtain ⟨⟨⟨hx, hb, hr, hml, hown, hts, hX, hbl, hlocks, hgv⟩, hL⟩, hKx, hKm, hDx, hDm, hAx, hAm, hxm⟩ := C0
  have hts : ∀ w ∈ q_T, w.before #[Value.ref b] s = true := fun w h => hts w (List.mem_filter.mp h).1
  have hbA : ¬ (fun q : Nat => s.heap.size ≤ q) b := Nat.not_le.mpr hbl
  intro H locs ls hPx hPm hS hl
  refine lv_aload_n hx hb dL_law_965 rfl (lv_at hl 1 rfl) ?_
  refine lv_aload_n hx hb dL_law_966 rfl (lv_at hl 0 rfl) ?_
  refine lv_iload_n hx hb dL_law_967 rfl (lv_at hl 3 rfl) ?_
  refine lv_iconst (v := 1) hx hb dL_law_968 (by decide) ?_
  refine lv_iadd hx hb dL_law_969 ?_
  refine lq_sld hx hb hX hbl hbA hS (j := 1) rfl (by omega) hL dL_law_970 ?_
  refine lq_ci (Wd := ax_W ax cx Lx) (σ1 := vx) (lq_runV (Wd := ax_W ax cx Lx) (σ := ux) (q0 := 0) (ci := 10) (T := TX10) (N := 11) (As := [.int (xs (i + 1))]) (rest := []) hx hb hml hown hts hKx hPx (kt_X10_walk hDx h1) cw_L_82 rfl rfl ⟨Nat.le_of_ble_eq_true rfl, Nat.le_of_ble_eq_true rfl⟩ rfl rfl rfl hl.1 rfl (Nat.le_of_ble_eq_true rfl) dL_law_971 ⟨Nat.le_refl _, Nat.le_refl _⟩) hS hAx hPm (fun k q h z => hxm _ z (lq_inm hDm k q h)) (fun H locs hPx hPm hS => ?_)
  refine lv_aload_n hx hb dL_law_974 rfl (lv_at hl 2 rfl) ?_
  refine lv_aload_n hx hb dL_law_975 rfl (lv_at hl 0 rfl) ?_
  refine lv_iload_n hx hb dL_law_976 rfl (lv_at hl 3 rfl) ?_
  refine lv_iconst (v := 1) hx hb dL_law_977 (by decide) ?_
  refine lv_iadd hx hb dL_law_978 ?_
  refine lq_sld hx hb hX hbl hbA hS (j := 1) rfl (by omega) hL dL_law_979 ?_
  refine lq_ci (Wd := am_W am cm) (σ1 := vm) (lq_runV (Wd := am_W am cm) (σ := um) (q0 := 0) (ci := 11) (T := TX11) (N := 72) (As := [.int (xs (i + 1))]) (rest := [.int r]) hx hb hml hown hts hKm hPm (kt_X11_walk hDm h2) cw_L_85 rfl rfl ⟨Nat.le_of_ble_eq_true rfl, Nat.le_of_ble_eq_true rfl⟩ rfl rfl rfl hl.1 rfl (Nat.le_of_ble_eq_true rfl) dL_law_980 ⟨Nat.le_refl _, Nat.le_refl _⟩) hS hAm hPx (fun k q h z => hxm _ (lq_inx hDx k q h) z) (fun H locs hPm hPx hS => ?_)
  refine lv_icmp_eq (tgt := 1469) hx hb dL_law_983 (by decide) (fun _ => ?_) (fun h => absurd rfl h)
  exact kk _ _ _ hPx hPm hS hl
set_option maxHeartbeats 4000000 in
set_option maxRecDepth 100000 in
theorem law_c14 {p : Program} {l : Launch} {e : Env} {s : State} {m : MethodId} {below : List Frame} {meth : Method} {c : Code} {b L : Nat} {xs : Nat → Int32} {D : va_G} {ax : Nat → Nat} {cx : Nat → ClassId} {Lx : Nat → Nat} {am : Nat → Nat} {cm : Nat → ClassId} (C0 : lq_C p s m meth c b L xs D ax cx Lx am cm) {N i : Nat} (hi : i + 7 ≤ L) {ux um vx vm : q_St} {r : Int32} (h1 : fX10_entry Lx N (xs (i + 1)) (xs (i + 2)) ux = some (r, vx)) (h2 : fX11_entry N (xs (i + 1)) (xs (i + 2)) um = some (r, vm)) (kk : lq_K p l e s m below meth c b D ax cx Lx am cm vx vm i 1469) : lq_K p l e s m below meth c b D ax cx Lx am cm ux um i 988 := by
  obtain ⟨⟨⟨hx, hb, hr, hml, hown, hts, hX, hbl, hlocks, hgv⟩, hL⟩, hKx, hKm, hDx, hDm, hAx, hAm, hxm⟩ := C0
  have hts : ∀ w ∈ q_T, w.before #[Value.ref b] s = true := fun w h => hts w (List.mem_filter.mp h).1
  have hbA : ¬ (fun q : Nat => s.heap.size ≤ q) b := Nat.not_le.mpr hbl
  intro H locs ls hPx hPm hS hl
  refine lv_aload_n hx hb dL_law_988 rfl (lv_at hl 1 rfl) ?_
  refine lv_aload_n hx hb dL_law_989 rfl (lv_at hl 0 rfl) ?_
  refine lv_iload_n hx hb dL_law_990 rfl (lv_at hl 3 rfl) ?_
  refine lv_iconst (v := 1) hx hb dL_law_991 (by decide) ?_
  refine lv_iadd hx hb dL_law_992 ?_
  refine lq_sld hx hb hX hbl hbA hS (j := 1) rfl (by omega) hL dL_law_993 ?_
  refine lv_aload_n hx hb dL_law_994 rfl (lv_at hl 0 rfl) ?_
  refine lv_iload_n hx hb dL_law_995 rfl (lv_at hl 3 rfl) ?_
  refine lv_iconst (v := 2) hx hb dL_law_996 (by decide) ?_
  refine lv_iadd hx hb dL_law_997 ?_
  refine lq_sld hx hb hX hbl hbA hS (j := 2) rfl (by omega) hL dL_law_998 ?_
  refine lq_ci (Wd := ax_W ax cx Lx) (σ1 := vx) (lq_runV (Wd := ax_W ax cx Lx) (σ := ux) (q0 := 0) (ci := 10) (T := TX10) (N := 11) (As := [.int (xs (i + 1)), .int (xs (i + 2))]) (rest := []) hx hb hml hown hts hKx hPx (kt_X10_entry hDx h1) cw_L_86 rfl rfl ⟨Nat.le_of_ble_eq_true rfl, Nat.le_of_ble_eq_true rfl⟩ rfl rfl rfl hl.1 rfl (Nat.le_of_ble_eq_true rfl) dL_law_999 ⟨Nat.le_refl _, Nat.le_refl _⟩) hS hAx hPm (fun k q h z => hxm _ z (lq_inm hDm k q h)) (fun H locs hPx hPm hS => ?_)
  refine lv_aload_n hx hb dL_law_1002 rfl (lv_at hl 2 rfl) ?_
  refine lv_aload_n hx hb dL_law_1003 rfl (lv_at hl 0 rfl) ?_
  refine lv_iload_n hx hb dL_law_1004 rfl (lv_at hl 3 rfl) ?_
  refine lv_iconst (v := 1) hx hb dL_law_1005 (by decide) ?_
  refine lv_iadd hx hb dL_law_1006 ?_
  refine lq_sld hx hb hX hbl hbA hS (j := 1) rfl (by omega) hL dL_law_1007 ?_
  refine lv_aload_n hx hb dL_law_1008 rfl (lv_at hl 0 rfl) ?_
  refine lv_iload_n hx hb dL_law_1009 rfl (lv_at hl 3 rfl) ?_
  refine lv_iconst (v := 2) hx hb dL_law_1010 (by decide) ?_
  refine lv_iadd hx hb dL_law_1011 ?_
  refine lq_sld hx hb hX hbl hbA hS (j := 2) rfl (by omega) hL dL_law_1012 ?_
  refine lq_ci (Wd := am_W am cm) (σ1 := vm) (lq_runV (Wd := am_W am cm) (σ := um) (q0 := 0) (ci := 11) (T := TX11) (N := 72) (As := [.int (xs (i + 1)), .int (xs (i + 2))]) (rest := [.int r]) hx hb hml hown hts hKm hPm (kt_X11_entry hDm h2) cw_L_89 rfl rfl ⟨Nat.le_of_ble_eq_true rfl, Nat.le_of_ble_eq_true rfl⟩ rfl rfl rfl hl.1 rfl (Nat.le_of_ble_eq_true rfl) dL_law_1013 ⟨Nat.le_refl _, Nat.le_refl _⟩) hS hAm hPx (fun k q h z => hxm _ (lq_inx hDx k q h) z) (fun H locs hPm hPx hS => ?_)
  refine lv_icmp_eq (tgt := 1469) hx hb dL_law_1016 (by decide) (fun _ => ?_) (fun h => absurd rfl h)
  exact kk _ _ _ hPx hPm hS hl
set_option maxHeartbeats 4000000 in
set_option maxRecDepth 100000 in
theorem law_c15 {p : Program} {l : Launch} {e : Env} {s : State} {m : MethodId} {below : List Frame} {meth : Method} {c : Code} {b L : Nat} {xs : Nat → Int32} {D : va_G} {ax : Nat → Nat} {cx : Nat → ClassId} {Lx : Nat → Nat} {am : Nat → Nat} {cm : Nat → ClassId} (C0 : lq_C p s m meth c b L xs D ax cx Lx am cm) {N i : Nat} (hi : i + 7 ≤ L) {ux um vx vm : q_St} {r : Int64} (h1 : fX10_name Lx N (xs (i + 1)) (xs (i + 2)) ux = some (r, vx)) (h2 : fX11_name N (xs (i + 1)) (xs (i + 2)) um = some (r, vm)) (kk : lq_K p l e s m below meth c b D ax cx Lx am cm vx vm i 1469) : lq_K p l e s m below meth c b D ax cx Lx am cm ux um i 1021 := by
  obtain ⟨⟨⟨hx, hb, hr, hml, hown, hts, hX, hbl, hlocks, hgv⟩, hL⟩, hKx, hKm, hDx, hDm, hAx, hAm, hxm⟩ := C0
  have hts : ∀ w ∈ q_T, w.before #[Value.ref b] s = true := fun w h => hts w (List.mem_filter.mp h).1
  have hbA : ¬ (fun q : Nat => s.heap.size ≤ q) b := Nat.not_le.mpr hbl
  intro H locs ls hPx hPm hS hl
  refine lv_aload_n hx hb dL_law_1021 rfl (lv_at hl 1 rfl) ?_
  refine lv_aload_n hx hb dL_law_1022 rfl (lv_at hl 0 rfl) ?_
  refine lv_iload_n hx hb dL_law_1023 rfl (lv_at hl 3 rfl) ?_
  refine lv_iconst (v := 1) hx hb dL_law_1024 (by decide) ?_
  refine lv_iadd hx hb dL_law_1025 ?_
  refine lq_sld hx hb hX hbl hbA hS (j := 1) rfl (by omega) hL dL_law_1026 ?_
  refine lv_aload_n hx hb dL_law_1027 rfl (lv_at hl 0 rfl) ?_
  refine lv_iload_n hx hb dL_law_1028 rfl (lv_at hl 3 rfl) ?_
  refine lv_iconst (v := 2) hx hb dL_law_1029 (by decide) ?_
  refine lv_iadd hx hb dL_law_1030 ?_
  refine lq_sld hx hb hX hbl hbA hS (j := 2) rfl (by omega) hL dL_law_1031 ?_
  refine lq_cl (Wd := ax_W ax cx Lx) (σ1 := vx) (lq_runV (Wd := ax_W ax cx Lx) (σ := ux) (q0 := 0) (ci := 10) (T := TX10) (N := 11) (As := [.int (xs (i + 1)), .int (xs (i + 2))]) (rest := []) hx hb hml hown hts hKx hPx (kt_X10_name hDx h1) cw_L_90 rfl rfl ⟨Nat.le_of_ble_eq_true rfl, Nat.le_of_ble_eq_true rfl⟩ rfl rfl rfl hl.1 rfl (Nat.le_of_ble_eq_true rfl) dL_law_1032 ⟨Nat.le_refl _, Nat.le_refl _⟩) hS hAx hPm (fun k q h z => hxm _ z (lq_inm hDm k q h)) (fun H locs hPx hPm hS => ?_)
  refine lv_aload_n hx hb dL_law_1035 rfl (lv_at hl 2 rfl) ?_
  refine lv_aload_n hx hb dL_law_1036 rfl (lv_at hl 0 rfl) ?_
  refine lv_iload_n hx hb dL_law_1037 rfl (lv_at hl 3 rfl) ?_
  refine lv_iconst (v := 1) hx hb dL_law_1038 (by decide) ?_
  refine lv_iadd hx hb dL_law_1039 ?_
  refine lq_sld hx hb hX hbl hbA hS (j := 1) rfl (by omega) hL dL_law_1040 ?_
  refine lv_aload_n hx hb dL_law_1041 rfl (lv_at hl 0 rfl) ?_
  refine lv_iload_n hx hb dL_law_1042 rfl (lv_at hl 3 rfl) ?_
  refine lv_iconst (v := 2) hx hb dL_law_1043 (by decide) ?_
  refine lv_iadd hx hb dL_law_1044 ?_
  refine lq_sld hx hb hX hbl hbA hS (j := 2) rfl (by omega) hL dL_law_1045 ?_
  refine lq_cl (Wd := am_W am cm) (σ1 := vm) (lq_runV (Wd := am_W am cm) (σ := um) (q0 := 0) (ci := 11) (T := TX11) (N := 72) (As := [.int (xs (i + 1)), .int (xs (i + 2))]) (rest := [.long r]) hx hb hml hown hts hKm hPm (kt_X11_name hDm h2) cw_L_94 rfl rfl ⟨Nat.le_of_ble_eq_true rfl, Nat.le_of_ble_eq_true rfl⟩ rfl rfl rfl hl.1 rfl (Nat.le_of_ble_eq_true rfl) dL_law_1046 ⟨Nat.le_refl _, Nat.le_refl _⟩) hS hAm hPx (fun k q h z => hxm _ (lq_inx hDx k q h) z) (fun H locs hPm hPx hS => ?_)
  refine W.lcmp hx hb dL_law_1049 ?_
  refine lv_if_eq (tgt := 1469) hx hb dL_law_1050 (by decide) (fun _ => ?_) (fun h => absurd (by simp [lg_cmp]) h)
  exact kk _ _ _ hPx hPm hS hl
set_option maxHeartbeats 4000000 in
set_option maxRecDepth 100000 in
theorem law_c16 {p : Program} {l : Launch} {e : Env} {s : State} {m : MethodId} {below : List Frame} {meth : Method} {c : Code} {b L : Nat} {xs : Nat → Int32} {D : va_G} {ax : Nat → Nat} {cx : Nat → ClassId} {Lx : Nat → Nat} {am : Nat → Nat} {cm : Nat → ClassId} (C0 : lq_C p s m meth c b L xs D ax cx Lx am cm) {N i : Nat} (hi : i + 7 ≤ L) {ux um vx vm : q_St} {r : Int32} (h1 : fX10_kind Lx N (xs (i + 1)) ux = some (r, vx)) (h2 : fX11_kind N (xs (i + 1)) um = some (r, vm)) (kk : lq_K p l e s m below meth c b D ax cx Lx am cm vx vm i 1469) : lq_K p l e s m below meth c b D ax cx Lx am cm ux um i 1055 := by
  obtain ⟨⟨⟨hx, hb, hr, hml, hown, hts, hX, hbl, hlocks, hgv⟩, hL⟩, hKx, hKm, hDx, hDm, hAx, hAm, hxm⟩ := C0
  have hts : ∀ w ∈ q_T, w.before #[Value.ref b] s = true := fun w h => hts w (List.mem_filter.mp h).1
  have hbA : ¬ (fun q : Nat => s.heap.size ≤ q) b := Nat.not_le.mpr hbl
  intro H locs ls hPx hPm hS hl
  refine lv_aload_n hx hb dL_law_1055 rfl (lv_at hl 1 rfl) ?_
  refine lv_aload_n hx hb dL_law_1056 rfl (lv_at hl 0 rfl) ?_
  refine lv_iload_n hx hb dL_law_1057 rfl (lv_at hl 3 rfl) ?_
  refine lv_iconst (v := 1) hx hb dL_law_1058 (by decide) ?_
  refine lv_iadd hx hb dL_law_1059 ?_
  refine lq_sld hx hb hX hbl hbA hS (j := 1) rfl (by omega) hL dL_law_1060 ?_
  refine lq_ci (Wd := ax_W ax cx Lx) (σ1 := vx) (lq_runV (Wd := ax_W ax cx Lx) (σ := ux) (q0 := 0) (ci := 10) (T := TX10) (N := 11) (As := [.int (xs (i + 1))]) (rest := []) hx hb hml hown hts hKx hPx (kt_X10_kind hDx h1) cw_L_95 rfl rfl ⟨Nat.le_of_ble_eq_true rfl, Nat.le_of_ble_eq_true rfl⟩ rfl rfl rfl hl.1 rfl (Nat.le_of_ble_eq_true rfl) dL_law_1061 ⟨Nat.le_refl _, Nat.le_refl _⟩) hS hAx hPm (fun k q h z => hxm _ z (lq_inm hDm k q h)) (fun H locs hPx hPm hS => ?_)
  refine lv_aload_n hx hb dL_law_1064 rfl (lv_at hl 2 rfl) ?_
  refine lv_aload_n hx hb dL_law_1065 rfl (lv_at hl 0 rfl) ?_
  refine lv_iload_n hx hb dL_law_1066 rfl (lv_at hl 3 rfl) ?_
  refine lv_iconst (v := 1) hx hb dL_law_1067 (by decide) ?_
  refine lv_iadd hx hb dL_law_1068 ?_
  refine lq_sld hx hb hX hbl hbA hS (j := 1) rfl (by omega) hL dL_law_1069 ?_
  refine lq_ci (Wd := am_W am cm) (σ1 := vm) (lq_runV (Wd := am_W am cm) (σ := um) (q0 := 0) (ci := 11) (T := TX11) (N := 72) (As := [.int (xs (i + 1))]) (rest := [.int r]) hx hb hml hown hts hKm hPm (kt_X11_kind hDm h2) cw_L_98 rfl rfl ⟨Nat.le_of_ble_eq_true rfl, Nat.le_of_ble_eq_true rfl⟩ rfl rfl rfl hl.1 rfl (Nat.le_of_ble_eq_true rfl) dL_law_1070 ⟨Nat.le_refl _, Nat.le_refl _⟩) hS hAm hPx (fun k q h z => hxm _ (lq_inx hDx k q h) z) (fun H locs hPm hPx hS => ?_)
  refine lv_icmp_eq (tgt := 1469) hx hb dL_law_1073 (by decide) (fun _ => ?_) (fun h => absurd rfl h)
  exact kk _ _ _ hPx hPm hS hl
set_option maxHeartbeats 4000000 in
set_option maxRecDepth 100000 in
theorem law_c17 {p : Program} {l : Launch} {e : Env} {s : State} {m : MethodId} {below : List Frame} {meth : Method} {c : Code} {b L : Nat} {xs : Nat → Int32} {D : va_G} {ax : Nat → Nat} {cx : Nat → ClassId} {Lx : Nat → Nat} {am : Nat → Nat} {cm : Nat → ClassId} (C0 : lq_C p s m meth c b L xs D ax cx Lx am cm) {N i : Nat} (hi : i + 7 ≤ L) {ux um vx vm : q_St} {r : Int32} (h1 : fX10_size Lx N (xs (i + 1)) ux = some (r, vx)) (h2 : fX11_size N (xs (i + 1)) um = some (r, vm)) (kk : lq_K p l e s m below meth c b D ax cx Lx am cm vx vm i 1469) : lq_K p l e s m below meth c b D ax cx Lx am cm ux um i 1078 := by
  obtain ⟨⟨⟨hx, hb, hr, hml, hown, hts, hX, hbl, hlocks, hgv⟩, hL⟩, hKx, hKm, hDx, hDm, hAx, hAm, hxm⟩ := C0
  have hts : ∀ w ∈ q_T, w.before #[Value.ref b] s = true := fun w h => hts w (List.mem_filter.mp h).1
  have hbA : ¬ (fun q : Nat => s.heap.size ≤ q) b := Nat.not_le.mpr hbl
  intro H locs ls hPx hPm hS hl
  refine lv_aload_n hx hb dL_law_1078 rfl (lv_at hl 1 rfl) ?_
  refine lv_aload_n hx hb dL_law_1079 rfl (lv_at hl 0 rfl) ?_
  refine lv_iload_n hx hb dL_law_1080 rfl (lv_at hl 3 rfl) ?_
  refine lv_iconst (v := 1) hx hb dL_law_1081 (by decide) ?_
  refine lv_iadd hx hb dL_law_1082 ?_
  refine lq_sld hx hb hX hbl hbA hS (j := 1) rfl (by omega) hL dL_law_1083 ?_
  refine lq_ci (Wd := ax_W ax cx Lx) (σ1 := vx) (lq_runV (Wd := ax_W ax cx Lx) (σ := ux) (q0 := 0) (ci := 10) (T := TX10) (N := 11) (As := [.int (xs (i + 1))]) (rest := []) hx hb hml hown hts hKx hPx (kt_X10_size hDx h1) cw_L_99 rfl rfl ⟨Nat.le_of_ble_eq_true rfl, Nat.le_of_ble_eq_true rfl⟩ rfl rfl rfl hl.1 rfl (Nat.le_of_ble_eq_true rfl) dL_law_1084 ⟨Nat.le_refl _, Nat.le_refl _⟩) hS hAx hPm (fun k q h z => hxm _ z (lq_inm hDm k q h)) (fun H locs hPx hPm hS => ?_)
  refine lv_aload_n hx hb dL_law_1087 rfl (lv_at hl 2 rfl) ?_
  refine lv_aload_n hx hb dL_law_1088 rfl (lv_at hl 0 rfl) ?_
  refine lv_iload_n hx hb dL_law_1089 rfl (lv_at hl 3 rfl) ?_
  refine lv_iconst (v := 1) hx hb dL_law_1090 (by decide) ?_
  refine lv_iadd hx hb dL_law_1091 ?_
  refine lq_sld hx hb hX hbl hbA hS (j := 1) rfl (by omega) hL dL_law_1092 ?_
  refine lq_ci (Wd := am_W am cm) (σ1 := vm) (lq_runV (Wd := am_W am cm) (σ := um) (q0 := 0) (ci := 11) (T := TX11) (N := 72) (As := [.int (xs (i + 1))]) (rest := [.int r]) hx hb hml hown hts hKm hPm (kt_X11_size hDm h2) cw_L_102 rfl rfl ⟨Nat.le_of_ble_eq_true rfl, Nat.le_of_ble_eq_true rfl⟩ rfl rfl rfl hl.1 rfl (Nat.le_of_ble_eq_true rfl) dL_law_1093 ⟨Nat.le_refl _, Nat.le_refl _⟩) hS hAm hPx (fun k q h z => hxm _ (lq_inx hDx k q h) z) (fun H locs hPm hPx hS => ?_)
  refine lv_icmp_eq (tgt := 1469) hx hb dL_law_1096 (by decide) (fun _ => ?_) (fun h => absurd rfl h)
  exact kk _ _ _ hPx hPm hS hl
set_option maxHeartbeats 4000000 in
set_option maxRecDepth 100000 in
theorem law_c18 {p : Program} {l : Launch} {e : Env} {s : State} {m : MethodId} {below : List Frame} {meth : Method} {c : Code} {b L : Nat} {xs : Nat → Int32} {D : va_G} {ax : Nat → Nat} {cx : Nat → ClassId} {Lx : Nat → Nat} {am : Nat → Nat} {cm : Nat → ClassId} (C0 : lq_C p s m meth c b L xs D ax cx Lx am cm) {N i : Nat} (hi : i + 7 ≤ L) {ux um vx vm : q_St} {r : Int32} (h1 : fX10_mode Lx N (xs (i + 1)) (xs (i + 2)) ux = some (r, vx)) (h2 : fX11_mode N (xs (i + 1)) (xs (i + 2)) um = some (r, vm)) (kk : lq_K p l e s m below meth c b D ax cx Lx am cm vx vm i 1469) : lq_K p l e s m below meth c b D ax cx Lx am cm ux um i 1101 := by
  obtain ⟨⟨⟨hx, hb, hr, hml, hown, hts, hX, hbl, hlocks, hgv⟩, hL⟩, hKx, hKm, hDx, hDm, hAx, hAm, hxm⟩ := C0
  have hts : ∀ w ∈ q_T, w.before #[Value.ref b] s = true := fun w h => hts w (List.mem_filter.mp h).1
  have hbA : ¬ (fun q : Nat => s.heap.size ≤ q) b := Nat.not_le.mpr hbl
  intro H locs ls hPx hPm hS hl
  refine lv_aload_n hx hb dL_law_1101 rfl (lv_at hl 1 rfl) ?_
  refine lv_aload_n hx hb dL_law_1102 rfl (lv_at hl 0 rfl) ?_
  refine lv_iload_n hx hb dL_law_1103 rfl (lv_at hl 3 rfl) ?_
  refine lv_iconst (v := 1) hx hb dL_law_1104 (by decide) ?_
  refine lv_iadd hx hb dL_law_1105 ?_
  refine lq_sld hx hb hX hbl hbA hS (j := 1) rfl (by omega) hL dL_law_1106 ?_
  refine lv_aload_n hx hb dL_law_1107 rfl (lv_at hl 0 rfl) ?_
  refine lv_iload_n hx hb dL_law_1108 rfl (lv_at hl 3 rfl) ?_
  refine lv_iconst (v := 2) hx hb dL_law_1109 (by decide) ?_
  refine lv_iadd hx hb dL_law_1110 ?_
  refine lq_sld hx hb hX hbl hbA hS (j := 2) rfl (by omega) hL dL_law_1111 ?_
  refine lq_ci (Wd := ax_W ax cx Lx) (σ1 := vx) (lq_runV (Wd := ax_W ax cx Lx) (σ := ux) (q0 := 0) (ci := 10) (T := TX10) (N := 11) (As := [.int (xs (i + 1)), .int (xs (i + 2))]) (rest := []) hx hb hml hown hts hKx hPx (kt_X10_mode hDx h1) cw_L_103 rfl rfl ⟨Nat.le_of_ble_eq_true rfl, Nat.le_of_ble_eq_true rfl⟩ rfl rfl rfl hl.1 rfl (Nat.le_of_ble_eq_true rfl) dL_law_1112 ⟨Nat.le_refl _, Nat.le_refl _⟩) hS hAx hPm (fun k q h z => hxm _ z (lq_inm hDm k q h)) (fun H locs hPx hPm hS => ?_)
  refine lv_aload_n hx hb dL_law_1115 rfl (lv_at hl 2 rfl) ?_
  refine lv_aload_n hx hb dL_law_1116 rfl (lv_at hl 0 rfl) ?_
  refine lv_iload_n hx hb dL_law_1117 rfl (lv_at hl 3 rfl) ?_
  refine lv_iconst (v := 1) hx hb dL_law_1118 (by decide) ?_
  refine lv_iadd hx hb dL_law_1119 ?_
  refine lq_sld hx hb hX hbl hbA hS (j := 1) rfl (by omega) hL dL_law_1120 ?_
  refine lv_aload_n hx hb dL_law_1121 rfl (lv_at hl 0 rfl) ?_
  refine lv_iload_n hx hb dL_law_1122 rfl (lv_at hl 3 rfl) ?_
  refine lv_iconst (v := 2) hx hb dL_law_1123 (by decide) ?_
  refine lv_iadd hx hb dL_law_1124 ?_
  refine lq_sld hx hb hX hbl hbA hS (j := 2) rfl (by omega) hL dL_law_1125 ?_
  refine lq_ci (Wd := am_W am cm) (σ1 := vm) (lq_runV (Wd := am_W am cm) (σ := um) (q0 := 0) (ci := 11) (T := TX11) (N := 72) (As := [.int (xs (i + 1)), .int (xs (i + 2))]) (rest := [.int r]) hx hb hml hown hts hKm hPm (kt_X11_mode hDm h2) cw_L_106 rfl rfl ⟨Nat.le_of_ble_eq_true rfl, Nat.le_of_ble_eq_true rfl⟩ rfl rfl rfl hl.1 rfl (Nat.le_of_ble_eq_true rfl) dL_law_1126 ⟨Nat.le_refl _, Nat.le_refl _⟩) hS hAm hPx (fun k q h z => hxm _ (lq_inx hDx k q h) z) (fun H locs hPm hPx hS => ?_)
  refine lv_icmp_eq (tgt := 1469) hx hb dL_law_1129 (by decide) (fun _ => ?_) (fun h => absurd rfl h)
  exact kk _ _ _ hPx hPm hS hl
set_option maxHeartbeats 4000000 in
set_option maxRecDepth 100000 in
theorem law_c19 {p : Program} {l : Launch} {e : Env} {s : State} {m : MethodId} {below : List Frame} {meth : Method} {c : Code} {b L : Nat} {xs : Nat → Int32} {D : va_G} {ax : Nat → Nat} {cx : Nat → ClassId} {Lx : Nat → Nat} {am : Nat → Nat} {cm : Nat → ClassId} (C0 : lq_C p s m meth c b L xs D ax cx Lx am cm) {N i : Nat} (hi : i + 7 ≤ L) {ux um vx vm : q_St} {r : Int32} (h1 : fX10_give Lx N (xs (i + 1)) (xs (i + 2)) ux = some (r, vx)) (h2 : fX11_give N (xs (i + 1)) (xs (i + 2)) um = some (r, vm)) (kk : lq_K p l e s m below meth c b D ax cx Lx am cm vx vm i 1469) : lq_K p l e s m below meth c b D ax cx Lx am cm ux um i 1134 := by
  obtain ⟨⟨⟨hx, hb, hr, hml, hown, hts, hX, hbl, hlocks, hgv⟩, hL⟩, hKx, hKm, hDx, hDm, hAx, hAm, hxm⟩ := C0
  have hts : ∀ w ∈ q_T, w.before #[Value.ref b] s = true := fun w h => hts w (List.mem_filter.mp h).1
  have hbA : ¬ (fun q : Nat => s.heap.size ≤ q) b := Nat.not_le.mpr hbl
  intro H locs ls hPx hPm hS hl
  refine lv_aload_n hx hb dL_law_1134 rfl (lv_at hl 1 rfl) ?_
  refine lv_aload_n hx hb dL_law_1135 rfl (lv_at hl 0 rfl) ?_
  refine lv_iload_n hx hb dL_law_1136 rfl (lv_at hl 3 rfl) ?_
  refine lv_iconst (v := 1) hx hb dL_law_1137 (by decide) ?_
  refine lv_iadd hx hb dL_law_1138 ?_
  refine lq_sld hx hb hX hbl hbA hS (j := 1) rfl (by omega) hL dL_law_1139 ?_
  refine lv_aload_n hx hb dL_law_1140 rfl (lv_at hl 0 rfl) ?_
  refine lv_iload_n hx hb dL_law_1141 rfl (lv_at hl 3 rfl) ?_
  refine lv_iconst (v := 2) hx hb dL_law_1142 (by decide) ?_
  refine lv_iadd hx hb dL_law_1143 ?_
  refine lq_sld hx hb hX hbl hbA hS (j := 2) rfl (by omega) hL dL_law_1144 ?_
  refine lq_ci (Wd := ax_W ax cx Lx) (σ1 := vx) (lq_runV (Wd := ax_W ax cx Lx) (σ := ux) (q0 := 0) (ci := 10) (T := TX10) (N := 11) (As := [.int (xs (i + 1)), .int (xs (i + 2))]) (rest := []) hx hb hml hown hts hKx hPx (kt_X10_give hDx h1) cw_L_107 rfl rfl ⟨Nat.le_of_ble_eq_true rfl, Nat.le_of_ble_eq_true rfl⟩ rfl rfl rfl hl.1 rfl (Nat.le_of_ble_eq_true rfl) dL_law_1145 ⟨Nat.le_refl _, Nat.le_refl _⟩) hS hAx hPm (fun k q h z => hxm _ z (lq_inm hDm k q h)) (fun H locs hPx hPm hS => ?_)
  refine lv_aload_n hx hb dL_law_1148 rfl (lv_at hl 2 rfl) ?_
  refine lv_aload_n hx hb dL_law_1149 rfl (lv_at hl 0 rfl) ?_
  refine lv_iload_n hx hb dL_law_1150 rfl (lv_at hl 3 rfl) ?_
  refine lv_iconst (v := 1) hx hb dL_law_1151 (by decide) ?_
  refine lv_iadd hx hb dL_law_1152 ?_
  refine lq_sld hx hb hX hbl hbA hS (j := 1) rfl (by omega) hL dL_law_1153 ?_
  refine lv_aload_n hx hb dL_law_1154 rfl (lv_at hl 0 rfl) ?_
  refine lv_iload_n hx hb dL_law_1155 rfl (lv_at hl 3 rfl) ?_
  refine lv_iconst (v := 2) hx hb dL_law_1156 (by decide) ?_
  refine lv_iadd hx hb dL_law_1157 ?_
  refine lq_sld hx hb hX hbl hbA hS (j := 2) rfl (by omega) hL dL_law_1158 ?_
  refine lq_ci (Wd := am_W am cm) (σ1 := vm) (lq_runV (Wd := am_W am cm) (σ := um) (q0 := 0) (ci := 11) (T := TX11) (N := 72) (As := [.int (xs (i + 1)), .int (xs (i + 2))]) (rest := [.int r]) hx hb hml hown hts hKm hPm (kt_X11_give hDm h2) cw_L_110 rfl rfl ⟨Nat.le_of_ble_eq_true rfl, Nat.le_of_ble_eq_true rfl⟩ rfl rfl rfl hl.1 rfl (Nat.le_of_ble_eq_true rfl) dL_law_1159 ⟨Nat.le_refl _, Nat.le_refl _⟩) hS hAm hPx (fun k q h z => hxm _ (lq_inx hDx k q h) z) (fun H locs hPm hPx hS => ?_)
  refine lv_icmp_eq (tgt := 1469) hx hb dL_law_1162 (by decide) (fun _ => ?_) (fun h => absurd rfl h)
  exact kk _ _ _ hPx hPm hS hl
set_option maxHeartbeats 4000000 in
set_option maxRecDepth 100000 in
theorem law_c20 {p : Program} {l : Launch} {e : Env} {s : State} {m : MethodId} {below : List Frame} {meth : Method} {c : Code} {b L : Nat} {xs : Nat → Int32} {D : va_G} {ax : Nat → Nat} {cx : Nat → ClassId} {Lx : Nat → Nat} {am : Nat → Nat} {cm : Nat → ClassId} (C0 : lq_C p s m meth c b L xs D ax cx Lx am cm) {N i : Nat} (hi : i + 7 ≤ L) {ux um vx vm : q_St} {r : Int32} (h1 : fX10_rights Lx N (xs (i + 1)) (xs (i + 2)) ux = some (r, vx)) (h2 : fX11_rights N (xs (i + 1)) (xs (i + 2)) um = some (r, vm)) (kk : lq_K p l e s m below meth c b D ax cx Lx am cm vx vm i 1469) : lq_K p l e s m below meth c b D ax cx Lx am cm ux um i 1167 := by
  obtain ⟨⟨⟨hx, hb, hr, hml, hown, hts, hX, hbl, hlocks, hgv⟩, hL⟩, hKx, hKm, hDx, hDm, hAx, hAm, hxm⟩ := C0
  have hts : ∀ w ∈ q_T, w.before #[Value.ref b] s = true := fun w h => hts w (List.mem_filter.mp h).1
  have hbA : ¬ (fun q : Nat => s.heap.size ≤ q) b := Nat.not_le.mpr hbl
  intro H locs ls hPx hPm hS hl
  refine lv_aload_n hx hb dL_law_1167 rfl (lv_at hl 1 rfl) ?_
  refine lv_aload_n hx hb dL_law_1168 rfl (lv_at hl 0 rfl) ?_
  refine lv_iload_n hx hb dL_law_1169 rfl (lv_at hl 3 rfl) ?_
  refine lv_iconst (v := 1) hx hb dL_law_1170 (by decide) ?_
  refine lv_iadd hx hb dL_law_1171 ?_
  refine lq_sld hx hb hX hbl hbA hS (j := 1) rfl (by omega) hL dL_law_1172 ?_
  refine lv_aload_n hx hb dL_law_1173 rfl (lv_at hl 0 rfl) ?_
  refine lv_iload_n hx hb dL_law_1174 rfl (lv_at hl 3 rfl) ?_
  refine lv_iconst (v := 2) hx hb dL_law_1175 (by decide) ?_
  refine lv_iadd hx hb dL_law_1176 ?_
  refine lq_sld hx hb hX hbl hbA hS (j := 2) rfl (by omega) hL dL_law_1177 ?_
  refine lq_ci (Wd := ax_W ax cx Lx) (σ1 := vx) (lq_runV (Wd := ax_W ax cx Lx) (σ := ux) (q0 := 0) (ci := 10) (T := TX10) (N := 11) (As := [.int (xs (i + 1)), .int (xs (i + 2))]) (rest := []) hx hb hml hown hts hKx hPx (kt_X10_rights hDx h1) cw_L_111 rfl rfl ⟨Nat.le_of_ble_eq_true rfl, Nat.le_of_ble_eq_true rfl⟩ rfl rfl rfl hl.1 rfl (Nat.le_of_ble_eq_true rfl) dL_law_1178 ⟨Nat.le_refl _, Nat.le_refl _⟩) hS hAx hPm (fun k q h z => hxm _ z (lq_inm hDm k q h)) (fun H locs hPx hPm hS => ?_)
  refine lv_aload_n hx hb dL_law_1181 rfl (lv_at hl 2 rfl) ?_
  refine lv_aload_n hx hb dL_law_1182 rfl (lv_at hl 0 rfl) ?_
  refine lv_iload_n hx hb dL_law_1183 rfl (lv_at hl 3 rfl) ?_
  refine lv_iconst (v := 1) hx hb dL_law_1184 (by decide) ?_
  refine lv_iadd hx hb dL_law_1185 ?_
  refine lq_sld hx hb hX hbl hbA hS (j := 1) rfl (by omega) hL dL_law_1186 ?_
  refine lv_aload_n hx hb dL_law_1187 rfl (lv_at hl 0 rfl) ?_
  refine lv_iload_n hx hb dL_law_1188 rfl (lv_at hl 3 rfl) ?_
  refine lv_iconst (v := 2) hx hb dL_law_1189 (by decide) ?_
  refine lv_iadd hx hb dL_law_1190 ?_
  refine lq_sld hx hb hX hbl hbA hS (j := 2) rfl (by omega) hL dL_law_1191 ?_
  refine lq_ci (Wd := am_W am cm) (σ1 := vm) (lq_runV (Wd := am_W am cm) (σ := um) (q0 := 0) (ci := 11) (T := TX11) (N := 72) (As := [.int (xs (i + 1)), .int (xs (i + 2))]) (rest := [.int r]) hx hb hml hown hts hKm hPm (kt_X11_rights hDm h2) cw_L_114 rfl rfl ⟨Nat.le_of_ble_eq_true rfl, Nat.le_of_ble_eq_true rfl⟩ rfl rfl rfl hl.1 rfl (Nat.le_of_ble_eq_true rfl) dL_law_1192 ⟨Nat.le_refl _, Nat.le_refl _⟩) hS hAm hPx (fun k q h z => hxm _ (lq_inx hDx k q h) z) (fun H locs hPm hPx hS => ?_)
  refine lv_icmp_eq (tgt := 1469) hx hb dL_law_1195 (by decide) (fun _ => ?_) (fun h => absurd rfl h)
  exact kk _ _ _ hPx hPm hS hl
set_option maxHeartbeats 4000000 in
set_option maxRecDepth 100000 in
theorem law_c21 {p : Program} {l : Launch} {e : Env} {s : State} {m : MethodId} {below : List Frame} {meth : Method} {c : Code} {b L : Nat} {xs : Nat → Int32} {D : va_G} {ax : Nat → Nat} {cx : Nat → ClassId} {Lx : Nat → Nat} {am : Nat → Nat} {cm : Nat → ClassId} (C0 : lq_C p s m meth c b L xs D ax cx Lx am cm) {N i : Nat} (hi : i + 7 ≤ L) {ux um vx vm : q_St} {r : Int32} (h1 : fX10_links Lx N (xs (i + 1)) ux = some (r, vx)) (h2 : fX11_links N (xs (i + 1)) um = some (r, vm)) (kk : lq_K p l e s m below meth c b D ax cx Lx am cm vx vm i 1469) : lq_K p l e s m below meth c b D ax cx Lx am cm ux um i 1200 := by
  obtain ⟨⟨⟨hx, hb, hr, hml, hown, hts, hX, hbl, hlocks, hgv⟩, hL⟩, hKx, hKm, hDx, hDm, hAx, hAm, hxm⟩ := C0
  have hts : ∀ w ∈ q_T, w.before #[Value.ref b] s = true := fun w h => hts w (List.mem_filter.mp h).1
  have hbA : ¬ (fun q : Nat => s.heap.size ≤ q) b := Nat.not_le.mpr hbl
  intro H locs ls hPx hPm hS hl
  refine lv_aload_n hx hb dL_law_1200 rfl (lv_at hl 1 rfl) ?_
  refine lv_aload_n hx hb dL_law_1201 rfl (lv_at hl 0 rfl) ?_
  refine lv_iload_n hx hb dL_law_1202 rfl (lv_at hl 3 rfl) ?_
  refine lv_iconst (v := 1) hx hb dL_law_1203 (by decide) ?_
  refine lv_iadd hx hb dL_law_1204 ?_
  refine lq_sld hx hb hX hbl hbA hS (j := 1) rfl (by omega) hL dL_law_1205 ?_
  refine lq_ci (Wd := ax_W ax cx Lx) (σ1 := vx) (lq_runV (Wd := ax_W ax cx Lx) (σ := ux) (q0 := 0) (ci := 10) (T := TX10) (N := 11) (As := [.int (xs (i + 1))]) (rest := []) hx hb hml hown hts hKx hPx (kt_X10_links hDx h1) cw_L_115 rfl rfl ⟨Nat.le_of_ble_eq_true rfl, Nat.le_of_ble_eq_true rfl⟩ rfl rfl rfl hl.1 rfl (Nat.le_of_ble_eq_true rfl) dL_law_1206 ⟨Nat.le_refl _, Nat.le_refl _⟩) hS hAx hPm (fun k q h z => hxm _ z (lq_inm hDm k q h)) (fun H locs hPx hPm hS => ?_)
  refine lv_aload_n hx hb dL_law_1209 rfl (lv_at hl 2 rfl) ?_
  refine lv_aload_n hx hb dL_law_1210 rfl (lv_at hl 0 rfl) ?_
  refine lv_iload_n hx hb dL_law_1211 rfl (lv_at hl 3 rfl) ?_
  refine lv_iconst (v := 1) hx hb dL_law_1212 (by decide) ?_
  refine lv_iadd hx hb dL_law_1213 ?_
  refine lq_sld hx hb hX hbl hbA hS (j := 1) rfl (by omega) hL dL_law_1214 ?_
  refine lq_ci (Wd := am_W am cm) (σ1 := vm) (lq_runV (Wd := am_W am cm) (σ := um) (q0 := 0) (ci := 11) (T := TX11) (N := 72) (As := [.int (xs (i + 1))]) (rest := [.int r]) hx hb hml hown hts hKm hPm (kt_X11_links hDm h2) cw_L_118 rfl rfl ⟨Nat.le_of_ble_eq_true rfl, Nat.le_of_ble_eq_true rfl⟩ rfl rfl rfl hl.1 rfl (Nat.le_of_ble_eq_true rfl) dL_law_1215 ⟨Nat.le_refl _, Nat.le_refl _⟩) hS hAm hPx (fun k q h z => hxm _ (lq_inx hDx k q h) z) (fun H locs hPm hPx hS => ?_)
  refine lv_icmp_eq (tgt := 1469) hx hb dL_law_1218 (by decide) (fun _ => ?_) (fun h => absurd rfl h)
  exact kk _ _ _ hPx hPm hS hl
set_option maxHeartbeats 4000000 in
set_option maxRecDepth 100000 in
theorem law_c22 {p : Program} {l : Launch} {e : Env} {s : State} {m : MethodId} {below : List Frame} {meth : Method} {c : Code} {b L : Nat} {xs : Nat → Int32} {D : va_G} {ax : Nat → Nat} {cx : Nat → ClassId} {Lx : Nat → Nat} {am : Nat → Nat} {cm : Nat → ClassId} (C0 : lq_C p s m meth c b L xs D ax cx Lx am cm) {N i : Nat} (hi : i + 7 ≤ L) {ux um vx vm : q_St} {r : Int32} (h1 : fX10_parent Lx N (xs (i + 1)) ux = some (r, vx)) (h2 : fX11_parent N (xs (i + 1)) um = some (r, vm)) (kk : lq_K p l e s m below meth c b D ax cx Lx am cm vx vm i 1469) : lq_K p l e s m below meth c b D ax cx Lx am cm ux um i 1223 := by
  obtain ⟨⟨⟨hx, hb, hr, hml, hown, hts, hX, hbl, hlocks, hgv⟩, hL⟩, hKx, hKm, hDx, hDm, hAx, hAm, hxm⟩ := C0
  have hts : ∀ w ∈ q_T, w.before #[Value.ref b] s = true := fun w h => hts w (List.mem_filter.mp h).1
  have hbA : ¬ (fun q : Nat => s.heap.size ≤ q) b := Nat.not_le.mpr hbl
  intro H locs ls hPx hPm hS hl
  refine lv_aload_n hx hb dL_law_1223 rfl (lv_at hl 1 rfl) ?_
  refine lv_aload_n hx hb dL_law_1224 rfl (lv_at hl 0 rfl) ?_
  refine lv_iload_n hx hb dL_law_1225 rfl (lv_at hl 3 rfl) ?_
  refine lv_iconst (v := 1) hx hb dL_law_1226 (by decide) ?_
  refine lv_iadd hx hb dL_law_1227 ?_
  refine lq_sld hx hb hX hbl hbA hS (j := 1) rfl (by omega) hL dL_law_1228 ?_
  refine lq_ci (Wd := ax_W ax cx Lx) (σ1 := vx) (lq_runV (Wd := ax_W ax cx Lx) (σ := ux) (q0 := 0) (ci := 10) (T := TX10) (N := 11) (As := [.int (xs (i + 1))]) (rest := []) hx hb hml hown hts hKx hPx (kt_X10_parent hDx h1) cw_L_119 rfl rfl ⟨Nat.le_of_ble_eq_true rfl, Nat.le_of_ble_eq_true rfl⟩ rfl rfl rfl hl.1 rfl (Nat.le_of_ble_eq_true rfl) dL_law_1229 ⟨Nat.le_refl _, Nat.le_refl _⟩) hS hAx hPm (fun k q h z => hxm _ z (lq_inm hDm k q h)) (fun H locs hPx hPm hS => ?_)
  refine lv_aload_n hx hb dL_law_1232 rfl (lv_at hl 2 rfl) ?_
  refine lv_aload_n hx hb dL_law_1233 rfl (lv_at hl 0 rfl) ?_
  refine lv_iload_n hx hb dL_law_1234 rfl (lv_at hl 3 rfl) ?_
  refine lv_iconst (v := 1) hx hb dL_law_1235 (by decide) ?_
  refine lv_iadd hx hb dL_law_1236 ?_
  refine lq_sld hx hb hX hbl hbA hS (j := 1) rfl (by omega) hL dL_law_1237 ?_
  refine lq_ci (Wd := am_W am cm) (σ1 := vm) (lq_runV (Wd := am_W am cm) (σ := um) (q0 := 0) (ci := 11) (T := TX11) (N := 72) (As := [.int (xs (i + 1))]) (rest := [.int r]) hx hb hml hown hts hKm hPm (kt_X11_parent hDm h2) cw_L_122 rfl rfl ⟨Nat.le_of_ble_eq_true rfl, Nat.le_of_ble_eq_true rfl⟩ rfl rfl rfl hl.1 rfl (Nat.le_of_ble_eq_true rfl) dL_law_1238 ⟨Nat.le_refl _, Nat.le_refl _⟩) hS hAm hPx (fun k q h z => hxm _ (lq_inx hDx k q h) z) (fun H locs hPm hPx hS => ?_)
  refine lv_icmp_eq (tgt := 1469) hx hb dL_law_1241 (by decide) (fun _ => ?_) (fun h => absurd rfl h)
  exact kk _ _ _ hPx hPm hS hl
set_option maxHeartbeats 4000000 in
set_option maxRecDepth 100000 in
theorem law_c23 {p : Program} {l : Launch} {e : Env} {s : State} {m : MethodId} {below : List Frame} {meth : Method} {c : Code} {b L : Nat} {xs : Nat → Int32} {D : va_G} {ax : Nat → Nat} {cx : Nat → ClassId} {Lx : Nat → Nat} {am : Nat → Nat} {cm : Nat → ClassId} (C0 : lq_C p s m meth c b L xs D ax cx Lx am cm) {N i : Nat} (hi : i + 7 ≤ L) {ux um vx vm : q_St} {r : Int32} (h1 : fX10_block Lx N (xs (i + 1)) (xs (i + 2)) ux = some (r, vx)) (h2 : fX11_block N (xs (i + 1)) (xs (i + 2)) um = some (r, vm)) (kk : lq_K p l e s m below meth c b D ax cx Lx am cm vx vm i 1469) : lq_K p l e s m below meth c b D ax cx Lx am cm ux um i 1246 := by
  obtain ⟨⟨⟨hx, hb, hr, hml, hown, hts, hX, hbl, hlocks, hgv⟩, hL⟩, hKx, hKm, hDx, hDm, hAx, hAm, hxm⟩ := C0
  have hts : ∀ w ∈ q_T, w.before #[Value.ref b] s = true := fun w h => hts w (List.mem_filter.mp h).1
  have hbA : ¬ (fun q : Nat => s.heap.size ≤ q) b := Nat.not_le.mpr hbl
  intro H locs ls hPx hPm hS hl
  refine lv_aload_n hx hb dL_law_1246 rfl (lv_at hl 1 rfl) ?_
  refine lv_aload_n hx hb dL_law_1247 rfl (lv_at hl 0 rfl) ?_
  refine lv_iload_n hx hb dL_law_1248 rfl (lv_at hl 3 rfl) ?_
  refine lv_iconst (v := 1) hx hb dL_law_1249 (by decide) ?_
  refine lv_iadd hx hb dL_law_1250 ?_
  refine lq_sld hx hb hX hbl hbA hS (j := 1) rfl (by omega) hL dL_law_1251 ?_
  refine lv_aload_n hx hb dL_law_1252 rfl (lv_at hl 0 rfl) ?_
  refine lv_iload_n hx hb dL_law_1253 rfl (lv_at hl 3 rfl) ?_
  refine lv_iconst (v := 2) hx hb dL_law_1254 (by decide) ?_
  refine lv_iadd hx hb dL_law_1255 ?_
  refine lq_sld hx hb hX hbl hbA hS (j := 2) rfl (by omega) hL dL_law_1256 ?_
  refine lq_ci (Wd := ax_W ax cx Lx) (σ1 := vx) (lq_runV (Wd := ax_W ax cx Lx) (σ := ux) (q0 := 0) (ci := 10) (T := TX10) (N := 11) (As := [.int (xs (i + 1)), .int (xs (i + 2))]) (rest := []) hx hb hml hown hts hKx hPx (kt_X10_block hDx h1) cw_L_123 rfl rfl ⟨Nat.le_of_ble_eq_true rfl, Nat.le_of_ble_eq_true rfl⟩ rfl rfl rfl hl.1 rfl (Nat.le_of_ble_eq_true rfl) dL_law_1257 ⟨Nat.le_refl _, Nat.le_refl _⟩) hS hAx hPm (fun k q h z => hxm _ z (lq_inm hDm k q h)) (fun H locs hPx hPm hS => ?_)
  refine lv_aload_n hx hb dL_law_1260 rfl (lv_at hl 2 rfl) ?_
  refine lv_aload_n hx hb dL_law_1261 rfl (lv_at hl 0 rfl) ?_
  refine lv_iload_n hx hb dL_law_1262 rfl (lv_at hl 3 rfl) ?_
  refine lv_iconst (v := 1) hx hb dL_law_1263 (by decide) ?_
  refine lv_iadd hx hb dL_law_1264 ?_
  refine lq_sld hx hb hX hbl hbA hS (j := 1) rfl (by omega) hL dL_law_1265 ?_
  refine lv_aload_n hx hb dL_law_1266 rfl (lv_at hl 0 rfl) ?_
  refine lv_iload_n hx hb dL_law_1267 rfl (lv_at hl 3 rfl) ?_
  refine lv_iconst (v := 2) hx hb dL_law_1268 (by decide) ?_
  refine lv_iadd hx hb dL_law_1269 ?_
  refine lq_sld hx hb hX hbl hbA hS (j := 2) rfl (by omega) hL dL_law_1270 ?_
  refine lq_ci (Wd := am_W am cm) (σ1 := vm) (lq_runV (Wd := am_W am cm) (σ := um) (q0 := 0) (ci := 11) (T := TX11) (N := 72) (As := [.int (xs (i + 1)), .int (xs (i + 2))]) (rest := [.int r]) hx hb hml hown hts hKm hPm (kt_X11_block hDm h2) cw_L_126 rfl rfl ⟨Nat.le_of_ble_eq_true rfl, Nat.le_of_ble_eq_true rfl⟩ rfl rfl rfl hl.1 rfl (Nat.le_of_ble_eq_true rfl) dL_law_1271 ⟨Nat.le_refl _, Nat.le_refl _⟩) hS hAm hPx (fun k q h z => hxm _ (lq_inx hDx k q h) z) (fun H locs hPm hPx hS => ?_)
  refine lv_icmp_eq (tgt := 1469) hx hb dL_law_1274 (by decide) (fun _ => ?_) (fun h => absurd rfl h)
  exact kk _ _ _ hPx hPm hS hl
set_option maxHeartbeats 4000000 in
set_option maxRecDepth 100000 in
theorem law_c24 {p : Program} {l : Launch} {e : Env} {s : State} {m : MethodId} {below : List Frame} {meth : Method} {c : Code} {b L : Nat} {xs : Nat → Int32} {D : va_G} {ax : Nat → Nat} {cx : Nat → ClassId} {Lx : Nat → Nat} {am : Nat → Nat} {cm : Nat → ClassId} (C0 : lq_C p s m meth c b L xs D ax cx Lx am cm) {N i : Nat} (hi : i + 7 ≤ L) {ux um vx vm : q_St} {r : Int32} (h1 : fX10_byteAt Lx N (xs (i + 1)) (xs (i + 2)) ux = some (r, vx)) (h2 : fX11_byteAt N (xs (i + 1)) (xs (i + 2)) um = some (r, vm)) (kk : lq_K p l e s m below meth c b D ax cx Lx am cm vx vm i 1469) : lq_K p l e s m below meth c b D ax cx Lx am cm ux um i 1279 := by
  obtain ⟨⟨⟨hx, hb, hr, hml, hown, hts, hX, hbl, hlocks, hgv⟩, hL⟩, hKx, hKm, hDx, hDm, hAx, hAm, hxm⟩ := C0
  have hts : ∀ w ∈ q_T, w.before #[Value.ref b] s = true := fun w h => hts w (List.mem_filter.mp h).1
  have hbA : ¬ (fun q : Nat => s.heap.size ≤ q) b := Nat.not_le.mpr hbl
  intro H locs ls hPx hPm hS hl
  refine lv_aload_n hx hb dL_law_1279 rfl (lv_at hl 1 rfl) ?_
  refine lv_aload_n hx hb dL_law_1280 rfl (lv_at hl 0 rfl) ?_
  refine lv_iload_n hx hb dL_law_1281 rfl (lv_at hl 3 rfl) ?_
  refine lv_iconst (v := 1) hx hb dL_law_1282 (by decide) ?_
  refine lv_iadd hx hb dL_law_1283 ?_
  refine lq_sld hx hb hX hbl hbA hS (j := 1) rfl (by omega) hL dL_law_1284 ?_
  refine lv_aload_n hx hb dL_law_1285 rfl (lv_at hl 0 rfl) ?_
  refine lv_iload_n hx hb dL_law_1286 rfl (lv_at hl 3 rfl) ?_
  refine lv_iconst (v := 2) hx hb dL_law_1287 (by decide) ?_
  refine lv_iadd hx hb dL_law_1288 ?_
  refine lq_sld hx hb hX hbl hbA hS (j := 2) rfl (by omega) hL dL_law_1289 ?_
  refine lq_ci (Wd := ax_W ax cx Lx) (σ1 := vx) (lq_runV (Wd := ax_W ax cx Lx) (σ := ux) (q0 := 0) (ci := 10) (T := TX10) (N := 11) (As := [.int (xs (i + 1)), .int (xs (i + 2))]) (rest := []) hx hb hml hown hts hKx hPx (kt_X10_byteAt hDx h1) cw_L_127 rfl rfl ⟨Nat.le_of_ble_eq_true rfl, Nat.le_of_ble_eq_true rfl⟩ rfl rfl rfl hl.1 rfl (Nat.le_of_ble_eq_true rfl) dL_law_1290 ⟨Nat.le_refl _, Nat.le_refl _⟩) hS hAx hPm (fun k q h z => hxm _ z (lq_inm hDm k q h)) (fun H locs hPx hPm hS => ?_)
  refine lv_aload_n hx hb dL_law_1293 rfl (lv_at hl 2 rfl) ?_
  refine lv_aload_n hx hb dL_law_1294 rfl (lv_at hl 0 rfl) ?_
  refine lv_iload_n hx hb dL_law_1295 rfl (lv_at hl 3 rfl) ?_
  refine lv_iconst (v := 1) hx hb dL_law_1296 (by decide) ?_
  refine lv_iadd hx hb dL_law_1297 ?_
  refine lq_sld hx hb hX hbl hbA hS (j := 1) rfl (by omega) hL dL_law_1298 ?_
  refine lv_aload_n hx hb dL_law_1299 rfl (lv_at hl 0 rfl) ?_
  refine lv_iload_n hx hb dL_law_1300 rfl (lv_at hl 3 rfl) ?_
  refine lv_iconst (v := 2) hx hb dL_law_1301 (by decide) ?_
  refine lv_iadd hx hb dL_law_1302 ?_
  refine lq_sld hx hb hX hbl hbA hS (j := 2) rfl (by omega) hL dL_law_1303 ?_
  refine lq_ci (Wd := am_W am cm) (σ1 := vm) (lq_runV (Wd := am_W am cm) (σ := um) (q0 := 0) (ci := 11) (T := TX11) (N := 72) (As := [.int (xs (i + 1)), .int (xs (i + 2))]) (rest := [.int r]) hx hb hml hown hts hKm hPm (kt_X11_byteAt hDm h2) cw_L_130 rfl rfl ⟨Nat.le_of_ble_eq_true rfl, Nat.le_of_ble_eq_true rfl⟩ rfl rfl rfl hl.1 rfl (Nat.le_of_ble_eq_true rfl) dL_law_1304 ⟨Nat.le_refl _, Nat.le_refl _⟩) hS hAm hPx (fun k q h z => hxm _ (lq_inx hDx k q h) z) (fun H locs hPm hPx hS => ?_)
  refine lv_icmp_eq (tgt := 1469) hx hb dL_law_1307 (by decide) (fun _ => ?_) (fun h => absurd rfl h)
  exact kk _ _ _ hPx hPm hS hl
set_option maxHeartbeats 4000000 in
set_option maxRecDepth 100000 in
theorem law_c25 {p : Program} {l : Launch} {e : Env} {s : State} {m : MethodId} {below : List Frame} {meth : Method} {c : Code} {b L : Nat} {xs : Nat → Int32} {D : va_G} {ax : Nat → Nat} {cx : Nat → ClassId} {Lx : Nat → Nat} {am : Nat → Nat} {cm : Nat → ClassId} (C0 : lq_C p s m meth c b L xs D ax cx Lx am cm) {N i : Nat} (hi : i + 7 ≤ L) {ux um vx vm : q_St} {r : Int32} (h1 : fX10_check Lx N ux = some (r, vx)) (h2 : fX11_check N um = some (r, vm)) (kk : lq_K p l e s m below meth c b D ax cx Lx am cm vx vm i 1469) : lq_K p l e s m below meth c b D ax cx Lx am cm ux um i 1312 := by
  obtain ⟨⟨⟨hx, hb, hr, hml, hown, hts, hX, hbl, hlocks, hgv⟩, hL⟩, hKx, hKm, hDx, hDm, hAx, hAm, hxm⟩ := C0
  have hts : ∀ w ∈ q_T, w.before #[Value.ref b] s = true := fun w h => hts w (List.mem_filter.mp h).1
  have hbA : ¬ (fun q : Nat => s.heap.size ≤ q) b := Nat.not_le.mpr hbl
  intro H locs ls hPx hPm hS hl
  refine lv_aload_n hx hb dL_law_1312 rfl (lv_at hl 1 rfl) ?_
  refine lq_ci (Wd := ax_W ax cx Lx) (σ1 := vx) (lq_runV (Wd := ax_W ax cx Lx) (σ := ux) (q0 := 0) (ci := 10) (T := TX10) (N := 11) (As := []) (rest := []) hx hb hml hown hts hKx hPx (kt_X10_check hDx h1) cw_L_131 rfl rfl ⟨Nat.le_of_ble_eq_true rfl, Nat.le_of_ble_eq_true rfl⟩ rfl rfl rfl hl.1 rfl (Nat.le_of_ble_eq_true rfl) dL_law_1313 ⟨Nat.le_refl _, Nat.le_refl _⟩) hS hAx hPm (fun k q h z => hxm _ z (lq_inm hDm k q h)) (fun H locs hPx hPm hS => ?_)
  refine lv_aload_n hx hb dL_law_1316 rfl (lv_at hl 2 rfl) ?_
  refine lq_ci (Wd := am_W am cm) (σ1 := vm) (lq_runV (Wd := am_W am cm) (σ := um) (q0 := 0) (ci := 11) (T := TX11) (N := 72) (As := []) (rest := [.int r]) hx hb hml hown hts hKm hPm (kt_X11_check hDm h2) cw_L_135 rfl rfl ⟨Nat.le_of_ble_eq_true rfl, Nat.le_of_ble_eq_true rfl⟩ rfl rfl rfl hl.1 rfl (Nat.le_of_ble_eq_true rfl) dL_law_1317 ⟨Nat.le_refl _, Nat.le_refl _⟩) hS hAm hPx (fun k q h z => hxm _ (lq_inx hDx k q h) z) (fun H locs hPm hPx hS => ?_)
  refine lv_icmp_eq (tgt := 1469) hx hb dL_law_1320 (by decide) (fun _ => ?_) (fun h => absurd rfl h)
  exact kk _ _ _ hPx hPm hS hl
set_option maxHeartbeats 4000000 in
set_option maxRecDepth 100000 in
theorem law_c26 {p : Program} {l : Launch} {e : Env} {s : State} {m : MethodId} {below : List Frame} {meth : Method} {c : Code} {b L : Nat} {xs : Nat → Int32} {D : va_G} {ax : Nat → Nat} {cx : Nat → ClassId} {Lx : Nat → Nat} {am : Nat → Nat} {cm : Nat → ClassId} (C0 : lq_C p s m meth c b L xs D ax cx Lx am cm) {N i : Nat} (hi : i + 7 ≤ L) {ux um vx vm : q_St} {r : Int32} (h1 : fX10_scrub Lx N ux = some (r, vx)) (h2 : fX11_scrub N um = some (r, vm)) (kk : lq_K p l e s m below meth c b D ax cx Lx am cm vx vm i 1469) : lq_K p l e s m below meth c b D ax cx Lx am cm ux um i 1325 := by
  obtain ⟨⟨⟨hx, hb, hr, hml, hown, hts, hX, hbl, hlocks, hgv⟩, hL⟩, hKx, hKm, hDx, hDm, hAx, hAm, hxm⟩ := C0
  have hts : ∀ w ∈ q_T, w.before #[Value.ref b] s = true := fun w h => hts w (List.mem_filter.mp h).1
  have hbA : ¬ (fun q : Nat => s.heap.size ≤ q) b := Nat.not_le.mpr hbl
  intro H locs ls hPx hPm hS hl
  refine lv_aload_n hx hb dL_law_1325 rfl (lv_at hl 1 rfl) ?_
  refine lq_ci (Wd := ax_W ax cx Lx) (σ1 := vx) (lq_runV (Wd := ax_W ax cx Lx) (σ := ux) (q0 := 0) (ci := 10) (T := TX10) (N := 11) (As := []) (rest := []) hx hb hml hown hts hKx hPx (kt_X10_scrub hDx h1) cw_L_136 rfl rfl ⟨Nat.le_of_ble_eq_true rfl, Nat.le_of_ble_eq_true rfl⟩ rfl rfl rfl hl.1 rfl (Nat.le_of_ble_eq_true rfl) dL_law_1326 ⟨Nat.le_refl _, Nat.le_refl _⟩) hS hAx hPm (fun k q h z => hxm _ z (lq_inm hDm k q h)) (fun H locs hPx hPm hS => ?_)
  refine lv_aload_n hx hb dL_law_1329 rfl (lv_at hl 2 rfl) ?_
  refine lq_ci (Wd := am_W am cm) (σ1 := vm) (lq_runV (Wd := am_W am cm) (σ := um) (q0 := 0) (ci := 11) (T := TX11) (N := 72) (As := []) (rest := [.int r]) hx hb hml hown hts hKm hPm (kt_X11_scrub hDm h2) cw_L_139 rfl rfl ⟨Nat.le_of_ble_eq_true rfl, Nat.le_of_ble_eq_true rfl⟩ rfl rfl rfl hl.1 rfl (Nat.le_of_ble_eq_true rfl) dL_law_1330 ⟨Nat.le_refl _, Nat.le_refl _⟩) hS hAm hPx (fun k q h z => hxm _ (lq_inx hDx k q h) z) (fun H locs hPm hPx hS => ?_)
  refine lv_icmp_eq (tgt := 1469) hx hb dL_law_1333 (by decide) (fun _ => ?_) (fun h => absurd rfl h)
  exact kk _ _ _ hPx hPm hS hl
set_option maxHeartbeats 4000000 in
set_option maxRecDepth 100000 in
theorem law_c27 {p : Program} {l : Launch} {e : Env} {s : State} {m : MethodId} {below : List Frame} {meth : Method} {c : Code} {b L : Nat} {xs : Nat → Int32} {D : va_G} {ax : Nat → Nat} {cx : Nat → ClassId} {Lx : Nat → Nat} {am : Nat → Nat} {cm : Nat → ClassId} (C0 : lq_C p s m meth c b L xs D ax cx Lx am cm) {N i : Nat} (hi : i + 7 ≤ L) {ux um vx vm : q_St} {r : Int32} (h1 : fX10_sync Lx N ux = some (r, vx)) (h2 : fX11_sync N um = some (r, vm)) (kk : lq_K p l e s m below meth c b D ax cx Lx am cm vx vm i 1469) : lq_K p l e s m below meth c b D ax cx Lx am cm ux um i 1338 := by
  obtain ⟨⟨⟨hx, hb, hr, hml, hown, hts, hX, hbl, hlocks, hgv⟩, hL⟩, hKx, hKm, hDx, hDm, hAx, hAm, hxm⟩ := C0
  have hts : ∀ w ∈ q_T, w.before #[Value.ref b] s = true := fun w h => hts w (List.mem_filter.mp h).1
  have hbA : ¬ (fun q : Nat => s.heap.size ≤ q) b := Nat.not_le.mpr hbl
  intro H locs ls hPx hPm hS hl
  refine lv_aload_n hx hb dL_law_1338 rfl (lv_at hl 1 rfl) ?_
  refine lq_ci (Wd := ax_W ax cx Lx) (σ1 := vx) (lq_runV (Wd := ax_W ax cx Lx) (σ := ux) (q0 := 0) (ci := 10) (T := TX10) (N := 11) (As := []) (rest := []) hx hb hml hown hts hKx hPx (kt_X10_sync hDx h1) cw_L_140 rfl rfl ⟨Nat.le_of_ble_eq_true rfl, Nat.le_of_ble_eq_true rfl⟩ rfl rfl rfl hl.1 rfl (Nat.le_of_ble_eq_true rfl) dL_law_1339 ⟨Nat.le_refl _, Nat.le_refl _⟩) hS hAx hPm (fun k q h z => hxm _ z (lq_inm hDm k q h)) (fun H locs hPx hPm hS => ?_)
  refine lv_aload_n hx hb dL_law_1342 rfl (lv_at hl 2 rfl) ?_
  refine lq_ci (Wd := am_W am cm) (σ1 := vm) (lq_runV (Wd := am_W am cm) (σ := um) (q0 := 0) (ci := 11) (T := TX11) (N := 72) (As := []) (rest := [.int r]) hx hb hml hown hts hKm hPm (kt_X11_sync hDm h2) cw_L_143 rfl rfl ⟨Nat.le_of_ble_eq_true rfl, Nat.le_of_ble_eq_true rfl⟩ rfl rfl rfl hl.1 rfl (Nat.le_of_ble_eq_true rfl) dL_law_1343 ⟨Nat.le_refl _, Nat.le_refl _⟩) hS hAm hPx (fun k q h z => hxm _ (lq_inx hDx k q h) z) (fun H locs hPm hPx hS => ?_)
  refine lv_icmp_eq (tgt := 1469) hx hb dL_law_1346 (by decide) (fun _ => ?_) (fun h => absurd rfl h)
  exact kk _ _ _ hPx hPm hS hl
set_option maxHeartbeats 4000000 in
set_option maxRecDepth 100000 in
theorem law_c28 {p : Program} {l : Launch} {e : Env} {s : State} {m : MethodId} {below : List Frame} {meth : Method} {c : Code} {b L : Nat} {xs : Nat → Int32} {D : va_G} {ax : Nat → Nat} {cx : Nat → ClassId} {Lx : Nat → Nat} {am : Nat → Nat} {cm : Nat → ClassId} (C0 : lq_C p s m meth c b L xs D ax cx Lx am cm) {N i : Nat} (hi : i + 7 ≤ L) {ux um vx vm : q_St} {r : Int32} (h1 : fX10_clean Lx N ux = some (r, vx)) (h2 : fX11_clean N um = some (r, vm)) (kk : lq_K p l e s m below meth c b D ax cx Lx am cm vx vm i 1469) : lq_K p l e s m below meth c b D ax cx Lx am cm ux um i 1351 := by
  obtain ⟨⟨⟨hx, hb, hr, hml, hown, hts, hX, hbl, hlocks, hgv⟩, hL⟩, hKx, hKm, hDx, hDm, hAx, hAm, hxm⟩ := C0
  have hts : ∀ w ∈ q_T, w.before #[Value.ref b] s = true := fun w h => hts w (List.mem_filter.mp h).1
  have hbA : ¬ (fun q : Nat => s.heap.size ≤ q) b := Nat.not_le.mpr hbl
  intro H locs ls hPx hPm hS hl
  refine lv_aload_n hx hb dL_law_1351 rfl (lv_at hl 1 rfl) ?_
  refine lq_ci (Wd := ax_W ax cx Lx) (σ1 := vx) (lq_runV (Wd := ax_W ax cx Lx) (σ := ux) (q0 := 0) (ci := 10) (T := TX10) (N := 11) (As := []) (rest := []) hx hb hml hown hts hKx hPx (kt_X10_clean hDx h1) cw_L_144 rfl rfl ⟨Nat.le_of_ble_eq_true rfl, Nat.le_of_ble_eq_true rfl⟩ rfl rfl rfl hl.1 rfl (Nat.le_of_ble_eq_true rfl) dL_law_1352 ⟨Nat.le_refl _, Nat.le_refl _⟩) hS hAx hPm (fun k q h z => hxm _ z (lq_inm hDm k q h)) (fun H locs hPx hPm hS => ?_)
  refine lv_aload_n hx hb dL_law_1355 rfl (lv_at hl 2 rfl) ?_
  refine lq_ci (Wd := am_W am cm) (σ1 := vm) (lq_runV (Wd := am_W am cm) (σ := um) (q0 := 0) (ci := 11) (T := TX11) (N := 72) (As := []) (rest := [.int r]) hx hb hml hown hts hKm hPm (kt_X11_clean hDm h2) cw_L_147 rfl rfl ⟨Nat.le_of_ble_eq_true rfl, Nat.le_of_ble_eq_true rfl⟩ rfl rfl rfl hl.1 rfl (Nat.le_of_ble_eq_true rfl) dL_law_1356 ⟨Nat.le_refl _, Nat.le_refl _⟩) hS hAm hPx (fun k q h z => hxm _ (lq_inx hDx k q h) z) (fun H locs hPm hPx hS => ?_)
  refine lv_icmp_eq (tgt := 1469) hx hb dL_law_1359 (by decide) (fun _ => ?_) (fun h => absurd rfl h)
  exact kk _ _ _ hPx hPm hS hl
set_option maxHeartbeats 4000000 in
set_option maxRecDepth 100000 in
theorem law_c29 {p : Program} {l : Launch} {e : Env} {s : State} {m : MethodId} {below : List Frame} {meth : Method} {c : Code} {b L : Nat} {xs : Nat → Int32} {D : va_G} {ax : Nat → Nat} {cx : Nat → ClassId} {Lx : Nat → Nat} {am : Nat → Nat} {cm : Nat → ClassId} (C0 : lq_C p s m meth c b L xs D ax cx Lx am cm) {N i : Nat} (hi : i + 7 ≤ L) {ux um vx vm : q_St} {r : Int32} (h1 : fX10_power Lx N (xs (i + 1)) ux = some (r, vx)) (h2 : fX11_power N (xs (i + 1)) um = some (r, vm)) (kk : lq_K p l e s m below meth c b D ax cx Lx am cm vx vm i 1469) : lq_K p l e s m below meth c b D ax cx Lx am cm ux um i 1364 := by
  obtain ⟨⟨⟨hx, hb, hr, hml, hown, hts, hX, hbl, hlocks, hgv⟩, hL⟩, hKx, hKm, hDx, hDm, hAx, hAm, hxm⟩ := C0
  have hts : ∀ w ∈ q_T, w.before #[Value.ref b] s = true := fun w h => hts w (List.mem_filter.mp h).1
  have hbA : ¬ (fun q : Nat => s.heap.size ≤ q) b := Nat.not_le.mpr hbl
  intro H locs ls hPx hPm hS hl
  refine lv_aload_n hx hb dL_law_1364 rfl (lv_at hl 1 rfl) ?_
  refine lv_aload_n hx hb dL_law_1365 rfl (lv_at hl 0 rfl) ?_
  refine lv_iload_n hx hb dL_law_1366 rfl (lv_at hl 3 rfl) ?_
  refine lv_iconst (v := 1) hx hb dL_law_1367 (by decide) ?_
  refine lv_iadd hx hb dL_law_1368 ?_
  refine lq_sld hx hb hX hbl hbA hS (j := 1) rfl (by omega) hL dL_law_1369 ?_
  refine lq_ci (Wd := ax_W ax cx Lx) (σ1 := vx) (lq_runV (Wd := ax_W ax cx Lx) (σ := ux) (q0 := 0) (ci := 10) (T := TX10) (N := 11) (As := [.int (xs (i + 1))]) (rest := []) hx hb hml hown hts hKx hPx (kt_X10_power hDx h1) cw_L_148 rfl rfl ⟨Nat.le_of_ble_eq_true rfl, Nat.le_of_ble_eq_true rfl⟩ rfl rfl rfl hl.1 rfl (Nat.le_of_ble_eq_true rfl) dL_law_1370 ⟨Nat.le_refl _, Nat.le_refl _⟩) hS hAx hPm (fun k q h z => hxm _ z (lq_inm hDm k q h)) (fun H locs hPx hPm hS => ?_)
  refine lv_aload_n hx hb dL_law_1373 rfl (lv_at hl 2 rfl) ?_
  refine lv_aload_n hx hb dL_law_1374 rfl (lv_at hl 0 rfl) ?_
  refine lv_iload_n hx hb dL_law_1375 rfl (lv_at hl 3 rfl) ?_
  refine lv_iconst (v := 1) hx hb dL_law_1376 (by decide) ?_
  refine lv_iadd hx hb dL_law_1377 ?_
  refine lq_sld hx hb hX hbl hbA hS (j := 1) rfl (by omega) hL dL_law_1378 ?_
  refine lq_ci (Wd := am_W am cm) (σ1 := vm) (lq_runV (Wd := am_W am cm) (σ := um) (q0 := 0) (ci := 11) (T := TX11) (N := 72) (As := [.int (xs (i + 1))]) (rest := [.int r]) hx hb hml hown hts hKm hPm (kt_X11_power hDm h2) cw_L_151 rfl rfl ⟨Nat.le_of_ble_eq_true rfl, Nat.le_of_ble_eq_true rfl⟩ rfl rfl rfl hl.1 rfl (Nat.le_of_ble_eq_true rfl) dL_law_1379 ⟨Nat.le_refl _, Nat.le_refl _⟩) hS hAm hPx (fun k q h z => hxm _ (lq_inx hDx k q h) z) (fun H locs hPm hPx hS => ?_)
  refine lv_icmp_eq (tgt := 1469) hx hb dL_law_1382 (by decide) (fun _ => ?_) (fun h => absurd rfl h)
  exact kk _ _ _ hPx hPm hS hl
set_option maxHeartbeats 4000000 in
set_option maxRecDepth 100000 in
theorem law_c30 {p : Program} {l : Launch} {e : Env} {s : State} {m : MethodId} {below : List Frame} {meth : Method} {c : Code} {b L : Nat} {xs : Nat → Int32} {D : va_G} {ax : Nat → Nat} {cx : Nat → ClassId} {Lx : Nat → Nat} {am : Nat → Nat} {cm : Nat → ClassId} (C0 : lq_C p s m meth c b L xs D ax cx Lx am cm) {N i : Nat} (hi : i + 7 ≤ L) {ux um vx vm : q_St} {r : Int32} (h1 : fX10_restore Lx N ux = some (r, vx)) (h2 : fX11_restore N um = some (r, vm)) (kk : lq_K p l e s m below meth c b D ax cx Lx am cm vx vm i 1469) : lq_K p l e s m below meth c b D ax cx Lx am cm ux um i 1387 := by
  obtain ⟨⟨⟨hx, hb, hr, hml, hown, hts, hX, hbl, hlocks, hgv⟩, hL⟩, hKx, hKm, hDx, hDm, hAx, hAm, hxm⟩ := C0
  have hts : ∀ w ∈ q_T, w.before #[Value.ref b] s = true := fun w h => hts w (List.mem_filter.mp h).1
  have hbA : ¬ (fun q : Nat => s.heap.size ≤ q) b := Nat.not_le.mpr hbl
  intro H locs ls hPx hPm hS hl
  refine lv_aload_n hx hb dL_law_1387 rfl (lv_at hl 1 rfl) ?_
  refine lq_ci (Wd := ax_W ax cx Lx) (σ1 := vx) (lq_runV (Wd := ax_W ax cx Lx) (σ := ux) (q0 := 0) (ci := 10) (T := TX10) (N := 11) (As := []) (rest := []) hx hb hml hown hts hKx hPx (kt_X10_restore hDx h1) cw_L_152 rfl rfl ⟨Nat.le_of_ble_eq_true rfl, Nat.le_of_ble_eq_true rfl⟩ rfl rfl rfl hl.1 rfl (Nat.le_of_ble_eq_true rfl) dL_law_1388 ⟨Nat.le_refl _, Nat.le_refl _⟩) hS hAx hPm (fun k q h z => hxm _ z (lq_inm hDm k q h)) (fun H locs hPx hPm hS => ?_)
  refine lv_aload_n hx hb dL_law_1391 rfl (lv_at hl 2 rfl) ?_
  refine lq_ci (Wd := am_W am cm) (σ1 := vm) (lq_runV (Wd := am_W am cm) (σ := um) (q0 := 0) (ci := 11) (T := TX11) (N := 72) (As := []) (rest := [.int r]) hx hb hml hown hts hKm hPm (kt_X11_restore hDm h2) cw_L_155 rfl rfl ⟨Nat.le_of_ble_eq_true rfl, Nat.le_of_ble_eq_true rfl⟩ rfl rfl rfl hl.1 rfl (Nat.le_of_ble_eq_true rfl) dL_law_1392 ⟨Nat.le_refl _, Nat.le_refl _⟩) hS hAm hPx (fun k q h z => hxm _ (lq_inx hDx k q h) z) (fun H locs hPm hPx hS => ?_)
  refine lv_icmp_eq (tgt := 1469) hx hb dL_law_1395 (by decide) (fun _ => ?_) (fun h => absurd rfl h)
  exact kk _ _ _ hPx hPm hS hl
set_option maxHeartbeats 4000000 in
set_option maxRecDepth 100000 in
theorem law_c31 {p : Program} {l : Launch} {e : Env} {s : State} {m : MethodId} {below : List Frame} {meth : Method} {c : Code} {b L : Nat} {xs : Nat → Int32} {D : va_G} {ax : Nat → Nat} {cx : Nat → ClassId} {Lx : Nat → Nat} {am : Nat → Nat} {cm : Nat → ClassId} (C0 : lq_C p s m meth c b L xs D ax cx Lx am cm) {N i : Nat} (hi : i + 7 ≤ L) {ux um vx vm : q_St} {r : Int32} (h1 : fX10_where Lx N (xs (i + 1)) ux = some (r, vx)) (h2 : fX11_where N (xs (i + 1)) um = some (r, vm)) (kk : lq_K p l e s m below meth c b D ax cx Lx am cm vx vm i 1469) : lq_K p l e s m below meth c b D ax cx Lx am cm ux um i 1400 := by
  obtain ⟨⟨⟨hx, hb, hr, hml, hown, hts, hX, hbl, hlocks, hgv⟩, hL⟩, hKx, hKm, hDx, hDm, hAx, hAm, hxm⟩ := C0
  have hts : ∀ w ∈ q_T, w.before #[Value.ref b] s = true := fun w h => hts w (List.mem_filter.mp h).1
  have hbA : ¬ (fun q : Nat => s.heap.size ≤ q) b := Nat.not_le.mpr hbl
  intro H locs ls hPx hPm hS hl
  refine lv_aload_n hx hb dL_law_1400 rfl (lv_at hl 1 rfl) ?_
  refine lv_aload_n hx hb dL_law_1401 rfl (lv_at hl 0 rfl) ?_
  refine lv_iload_n hx hb dL_law_1402 rfl (lv_at hl 3 rfl) ?_
  refine lv_iconst (v := 1) hx hb dL_law_1403 (by decide) ?_
  refine lv_iadd hx hb dL_law_1404 ?_
  refine lq_sld hx hb hX hbl hbA hS (j := 1) rfl (by omega) hL dL_law_1405 ?_
  refine lq_ci (Wd := ax_W ax cx Lx) (σ1 := vx) (lq_runV (Wd := ax_W ax cx Lx) (σ := ux) (q0 := 0) (ci := 10) (T := TX10) (N := 11) (As := [.int (xs (i + 1))]) (rest := []) hx hb hml hown hts hKx hPx (kt_X10_where hDx h1) cw_L_156 rfl rfl ⟨Nat.le_of_ble_eq_true rfl, Nat.le_of_ble_eq_true rfl⟩ rfl rfl rfl hl.1 rfl (Nat.le_of_ble_eq_true rfl) dL_law_1406 ⟨Nat.le_refl _, Nat.le_refl _⟩) hS hAx hPm (fun k q h z => hxm _ z (lq_inm hDm k q h)) (fun H locs hPx hPm hS => ?_)
  refine lv_aload_n hx hb dL_law_1409 rfl (lv_at hl 2 rfl) ?_
  refine lv_aload_n hx hb dL_law_1410 rfl (lv_at hl 0 rfl) ?_
  refine lv_iload_n hx hb dL_law_1411 rfl (lv_at hl 3 rfl) ?_
  refine lv_iconst (v := 1) hx hb dL_law_1412 (by decide) ?_
  refine lv_iadd hx hb dL_law_1413 ?_
  refine lq_sld hx hb hX hbl hbA hS (j := 1) rfl (by omega) hL dL_law_1414 ?_
  refine lq_ci (Wd := am_W am cm) (σ1 := vm) (lq_runV (Wd := am_W am cm) (σ := um) (q0 := 0) (ci := 11) (T := TX11) (N := 72) (As := [.int (xs (i + 1))]) (rest := [.int r]) hx hb hml hown hts hKm hPm (kt_X11_where hDm h2) cw_L_159 rfl rfl ⟨Nat.le_of_ble_eq_true rfl, Nat.le_of_ble_eq_true rfl⟩ rfl rfl rfl hl.1 rfl (Nat.le_of_ble_eq_true rfl) dL_law_1415 ⟨Nat.le_refl _, Nat.le_refl _⟩) hS hAm hPx (fun k q h z => hxm _ (lq_inx hDx k q h) z) (fun H locs hPm hPx hS => ?_)
  refine lv_icmp_eq (tgt := 1469) hx hb dL_law_1418 (by decide) (fun _ => ?_) (fun h => absurd rfl h)
  exact kk _ _ _ hPx hPm hS hl
set_option maxHeartbeats 4000000 in
set_option maxRecDepth 100000 in
theorem law_c32 {p : Program} {l : Launch} {e : Env} {s : State} {m : MethodId} {below : List Frame} {meth : Method} {c : Code} {b L : Nat} {xs : Nat → Int32} {D : va_G} {ax : Nat → Nat} {cx : Nat → ClassId} {Lx : Nat → Nat} {am : Nat → Nat} {cm : Nat → ClassId} (C0 : lq_C p s m meth c b L xs D ax cx Lx am cm) {N i : Nat} (hi : i + 7 ≤ L) {ux um vx vm : q_St} {r : Int32} (h1 : fX10_mark Lx N (xs (i + 1)) ux = some (r, vx)) (h2 : fX11_mark N (xs (i + 1)) um = some (r, vm)) (kk : lq_K p l e s m below meth c b D ax cx Lx am cm vx vm i 1469) : lq_K p l e s m below meth c b D ax cx Lx am cm ux um i 1423 := by
  obtain ⟨⟨⟨hx, hb, hr, hml, hown, hts, hX, hbl, hlocks, hgv⟩, hL⟩, hKx, hKm, hDx, hDm, hAx, hAm, hxm⟩ := C0
  have hts : ∀ w ∈ q_T, w.before #[Value.ref b] s = true := fun w h => hts w (List.mem_filter.mp h).1
  have hbA : ¬ (fun q : Nat => s.heap.size ≤ q) b := Nat.not_le.mpr hbl
  intro H locs ls hPx hPm hS hl
  refine lv_aload_n hx hb dL_law_1423 rfl (lv_at hl 1 rfl) ?_
  refine lv_aload_n hx hb dL_law_1424 rfl (lv_at hl 0 rfl) ?_
  refine lv_iload_n hx hb dL_law_1425 rfl (lv_at hl 3 rfl) ?_
  refine lv_iconst (v := 1) hx hb dL_law_1426 (by decide) ?_
  refine lv_iadd hx hb dL_law_1427 ?_
  refine lq_sld hx hb hX hbl hbA hS (j := 1) rfl (by omega) hL dL_law_1428 ?_
  refine lq_ci (Wd := ax_W ax cx Lx) (σ1 := vx) (lq_runV (Wd := ax_W ax cx Lx) (σ := ux) (q0 := 0) (ci := 10) (T := TX10) (N := 11) (As := [.int (xs (i + 1))]) (rest := []) hx hb hml hown hts hKx hPx (kt_X10_mark hDx h1) cw_L_160 rfl rfl ⟨Nat.le_of_ble_eq_true rfl, Nat.le_of_ble_eq_true rfl⟩ rfl rfl rfl hl.1 rfl (Nat.le_of_ble_eq_true rfl) dL_law_1429 ⟨Nat.le_refl _, Nat.le_refl _⟩) hS hAx hPm (fun k q h z => hxm _ z (lq_inm hDm k q h)) (fun H locs hPx hPm hS => ?_)
  refine lv_aload_n hx hb dL_law_1432 rfl (lv_at hl 2 rfl) ?_
  refine lv_aload_n hx hb dL_law_1433 rfl (lv_at hl 0 rfl) ?_
  refine lv_iload_n hx hb dL_law_1434 rfl (lv_at hl 3 rfl) ?_
  refine lv_iconst (v := 1) hx hb dL_law_1435 (by decide) ?_
  refine lv_iadd hx hb dL_law_1436 ?_
  refine lq_sld hx hb hX hbl hbA hS (j := 1) rfl (by omega) hL dL_law_1437 ?_
  refine lq_ci (Wd := am_W am cm) (σ1 := vm) (lq_runV (Wd := am_W am cm) (σ := um) (q0 := 0) (ci := 11) (T := TX11) (N := 72) (As := [.int (xs (i + 1))]) (rest := [.int r]) hx hb hml hown hts hKm hPm (kt_X11_mark hDm h2) cw_L_163 rfl rfl ⟨Nat.le_of_ble_eq_true rfl, Nat.le_of_ble_eq_true rfl⟩ rfl rfl rfl hl.1 rfl (Nat.le_of_ble_eq_true rfl) dL_law_1438 ⟨Nat.le_refl _, Nat.le_refl _⟩) hS hAm hPx (fun k q h z => hxm _ (lq_inx hDx k q h) z) (fun H locs hPm hPx hS => ?_)
  refine lv_icmp_eq (tgt := 1469) hx hb dL_law_1441 (by decide) (fun _ => ?_) (fun h => absurd rfl h)
  exact kk _ _ _ hPx hPm hS hl
set_option maxHeartbeats 4000000 in
set_option maxRecDepth 100000 in
theorem law_c33 {p : Program} {l : Launch} {e : Env} {s : State} {m : MethodId} {below : List Frame} {meth : Method} {c : Code} {b L : Nat} {xs : Nat → Int32} {D : va_G} {ax : Nat → Nat} {cx : Nat → ClassId} {Lx : Nat → Nat} {am : Nat → Nat} {cm : Nat → ClassId} (C0 : lq_C p s m meth c b L xs D ax cx Lx am cm) {N i : Nat} (hi : i + 7 ≤ L) {ux um vx vm : q_St} {r : Int32} (h1 : fX10_count Lx N (xs (i + 1)) ux = some (r, vx)) (h2 : fX11_count N (xs (i + 1)) um = some (r, vm)) (kk : lq_K p l e s m below meth c b D ax cx Lx am cm vx vm i 1469) : lq_K p l e s m below meth c b D ax cx Lx am cm ux um i 1446 := by
  obtain ⟨⟨⟨hx, hb, hr, hml, hown, hts, hX, hbl, hlocks, hgv⟩, hL⟩, hKx, hKm, hDx, hDm, hAx, hAm, hxm⟩ := C0
  have hts : ∀ w ∈ q_T, w.before #[Value.ref b] s = true := fun w h => hts w (List.mem_filter.mp h).1
  have hbA : ¬ (fun q : Nat => s.heap.size ≤ q) b := Nat.not_le.mpr hbl
  intro H locs ls hPx hPm hS hl
  refine lv_aload_n hx hb dL_law_1446 rfl (lv_at hl 1 rfl) ?_
  refine lv_aload_n hx hb dL_law_1447 rfl (lv_at hl 0 rfl) ?_
  refine lv_iload_n hx hb dL_law_1448 rfl (lv_at hl 3 rfl) ?_
  refine lv_iconst (v := 1) hx hb dL_law_1449 (by decide) ?_
  refine lv_iadd hx hb dL_law_1450 ?_
  refine lq_sld hx hb hX hbl hbA hS (j := 1) rfl (by omega) hL dL_law_1451 ?_
  refine lq_ci (Wd := ax_W ax cx Lx) (σ1 := vx) (lq_runV (Wd := ax_W ax cx Lx) (σ := ux) (q0 := 0) (ci := 10) (T := TX10) (N := 11) (As := [.int (xs (i + 1))]) (rest := []) hx hb hml hown hts hKx hPx (kt_X10_count hDx h1) cw_L_164 rfl rfl ⟨Nat.le_of_ble_eq_true rfl, Nat.le_of_ble_eq_true rfl⟩ rfl rfl rfl hl.1 rfl (Nat.le_of_ble_eq_true rfl) dL_law_1452 ⟨Nat.le_refl _, Nat.le_refl _⟩) hS hAx hPm (fun k q h z => hxm _ z (lq_inm hDm k q h)) (fun H locs hPx hPm hS => ?_)
  refine lv_aload_n hx hb dL_law_1455 rfl (lv_at hl 2 rfl) ?_
  refine lv_aload_n hx hb dL_law_1456 rfl (lv_at hl 0 rfl) ?_
  refine lv_iload_n hx hb dL_law_1457 rfl (lv_at hl 3 rfl) ?_
  refine lv_iconst (v := 1) hx hb dL_law_1458 (by decide) ?_
  refine lv_iadd hx hb dL_law_1459 ?_
  refine lq_sld hx hb hX hbl hbA hS (j := 1) rfl (by omega) hL dL_law_1460 ?_
  refine lq_ci (Wd := am_W am cm) (σ1 := vm) (lq_runV (Wd := am_W am cm) (σ := um) (q0 := 0) (ci := 11) (T := TX11) (N := 72) (As := [.int (xs (i + 1))]) (rest := [.int r]) hx hb hml hown hts hKm hPm (kt_X11_count hDm h2) cw_L_167 rfl rfl ⟨Nat.le_of_ble_eq_true rfl, Nat.le_of_ble_eq_true rfl⟩ rfl rfl rfl hl.1 rfl (Nat.le_of_ble_eq_true rfl) dL_law_1461 ⟨Nat.le_refl _, Nat.le_refl _⟩) hS hAm hPx (fun k q h z => hxm _ (lq_inx hDx k q h) z) (fun H locs hPm hPx hS => ?_)
  refine lv_icmp_eq (tgt := 1469) hx hb dL_law_1464 (by decide) (fun _ => ?_) (fun h => absurd rfl h)
  exact kk _ _ _ hPx hPm hS hl
/-- the step of feed -/
def st_feed (Inv : Nat → q_St → q_St → Prop) (Lx : Nat → Nat) (N : Nat) : Prop := ∀ (k : Nat) (ux um : q_St) (x0 : Int32) (x1 : Int32) (x2 : Int32) (x3 : Int32) (x4 : Int32), k < 64 → Inv k ux um → ∃ (r : Int32) (vx vm : q_St), fX10_feed Lx N x0 x1 x2 x3 x4 ux = some (r, vx) ∧ fX11_feed N x0 x1 x2 x3 x4 um = some (r, vm) ∧ Inv (k + 1) vx vm
/-- the step of end -/
def st_end (Inv : Nat → q_St → q_St → Prop) (Lx : Nat → Nat) (N : Nat) : Prop := ∀ (k : Nat) (ux um : q_St) (x0 : Int32), k < 64 → Inv k ux um → ∃ (r : Int32) (vx vm : q_St), fX10_end Lx N x0 ux = some (r, vx) ∧ fX11_end N x0 um = some (r, vm) ∧ Inv (k + 1) vx vm
/-- the step of as -/
def st_as (Inv : Nat → q_St → q_St → Prop) (Lx : Nat → Nat) (N : Nat) : Prop := ∀ (k : Nat) (ux um : q_St) (x0 : Int32), k < 64 → Inv k ux um → ∃ (r : Int32) (vx vm : q_St), fX10_as Lx N x0 ux = some (r, vx) ∧ fX11_as N x0 um = some (r, vm) ∧ Inv (k + 1) vx vm
/-- the step of make -/
def st_make (Inv : Nat → q_St → q_St → Prop) (Lx : Nat → Nat) (N : Nat) : Prop := ∀ (k : Nat) (ux um : q_St) (x0 : Int32) (x1 : Int64), k < 64 → Inv k ux um → ∃ (r : Int32) (vx vm : q_St), fX10_make Lx N x0 x1 ux = some (r, vx) ∧ fX11_make N x0 x1 um = some (r, vm) ∧ Inv (k + 1) vx vm
/-- the step of dir -/
def st_dir (Inv : Nat → q_St → q_St → Prop) (Lx : Nat → Nat) (N : Nat) : Prop := ∀ (k : Nat) (ux um : q_St) (x0 : Int32) (x1 : Int64), k < 64 → Inv k ux um → ∃ (r : Int32) (vx vm : q_St), fX10_dir Lx N x0 x1 ux = some (r, vx) ∧ fX11_dir N x0 x1 um = some (r, vm) ∧ Inv (k + 1) vx vm
/-- the step of lay -/
def st_lay (Inv : Nat → q_St → q_St → Prop) (Lx : Nat → Nat) (N : Nat) : Prop := ∀ (k : Nat) (ux um : q_St) (x0 : Int32) (x1 : Int64), k < 64 → Inv k ux um → ∃ (r : Int32) (vx vm : q_St), fX10_lay Lx N x0 x1 ux = some (r, vx) ∧ fX11_lay N x0 x1 um = some (r, vm) ∧ Inv (k + 1) vx vm
/-- the step of point -/
def st_point (Inv : Nat → q_St → q_St → Prop) (Lx : Nat → Nat) (N : Nat) : Prop := ∀ (k : Nat) (ux um : q_St) (x0 : Int32) (x1 : Int64), k < 64 → Inv k ux um → ∃ (r : Int32) (vx vm : q_St), fX10_point Lx N x0 x1 ux = some (r, vx) ∧ fX11_point N x0 x1 um = some (r, vm) ∧ Inv (k + 1) vx vm
/-- the step of link -/
def st_link (Inv : Nat → q_St → q_St → Prop) (Lx : Nat → Nat) (N : Nat) : Prop := ∀ (k : Nat) (ux um : q_St) (x0 : Int32) (x1 : Int64) (x2 : Int32), k < 64 → Inv k ux um → ∃ (r : Int32) (vx vm : q_St), fX10_link Lx N x0 x1 x2 ux = some (r, vx) ∧ fX11_link N x0 x1 x2 um = some (r, vm) ∧ Inv (k + 1) vx vm
/-- the step of put -/
def st_put (Inv : Nat → q_St → q_St → Prop) (Lx : Nat → Nat) (N : Nat) : Prop := ∀ (k : Nat) (ux um : q_St) (x0 : Int32) (x1 : Int32), k < 64 → Inv k ux um → ∃ (r : Int32) (vx vm : q_St), fX10_put Lx N x0 x1 ux = some (r, vx) ∧ fX11_put N x0 x1 um = some (r, vm) ∧ Inv (k + 1) vx vm
/-- the step of cut -/
def st_cut (Inv : Nat → q_St → q_St → Prop) (Lx : Nat → Nat) (N : Nat) : Prop := ∀ (k : Nat) (ux um : q_St) (x0 : Int32) (x1 : Int32), k < 64 → Inv k ux um → ∃ (r : Int32) (vx vm : q_St), fX10_cut Lx N x0 x1 ux = some (r, vx) ∧ fX11_cut N x0 x1 um = some (r, vm) ∧ Inv (k + 1) vx vm
/-- the step of drop -/
def st_drop (Inv : Nat → q_St → q_St → Prop) (Lx : Nat → Nat) (N : Nat) : Prop := ∀ (k : Nat) (ux um : q_St) (x0 : Int32) (x1 : Int64), k < 64 → Inv k ux um → ∃ (r : Int32) (vx vm : q_St), fX10_drop Lx N x0 x1 ux = some (r, vx) ∧ fX11_drop N x0 x1 um = some (r, vm) ∧ Inv (k + 1) vx vm
/-- the step of rename -/
def st_rename (Inv : Nat → q_St → q_St → Prop) (Lx : Nat → Nat) (N : Nat) : Prop := ∀ (k : Nat) (ux um : q_St) (x0 : Int32) (x1 : Int64) (x2 : Int32) (x3 : Int64), k < 64 → Inv k ux um → ∃ (r : Int32) (vx vm : q_St), fX10_rename Lx N x0 x1 x2 x3 ux = some (r, vx) ∧ fX11_rename N x0 x1 x2 x3 um = some (r, vm) ∧ Inv (k + 1) vx vm
/-- the step of find -/
def st_find (Inv : Nat → q_St → q_St → Prop) (Lx : Nat → Nat) (N : Nat) : Prop := ∀ (k : Nat) (ux um : q_St) (x0 : Int32) (x1 : Int64), k < 64 → Inv k ux um → ∃ (r : Int32) (vx vm : q_St), fX10_find Lx N x0 x1 ux = some (r, vx) ∧ fX11_find N x0 x1 um = some (r, vm) ∧ Inv (k + 1) vx vm
/-- the step of walk -/
def st_walk (Inv : Nat → q_St → q_St → Prop) (Lx : Nat → Nat) (N : Nat) : Prop := ∀ (k : Nat) (ux um : q_St) (x0 : Int32), k < 64 → Inv k ux um → ∃ (r : Int32) (vx vm : q_St), fX10_walk Lx N x0 ux = some (r, vx) ∧ fX11_walk N x0 um = some (r, vm) ∧ Inv (k + 1) vx vm
/-- the step of entry -/
def st_entry (Inv : Nat → q_St → q_St → Prop) (Lx : Nat → Nat) (N : Nat) : Prop := ∀ (k : Nat) (ux um : q_St) (x0 : Int32) (x1 : Int32), k < 64 → Inv k ux um → ∃ (r : Int32) (vx vm : q_St), fX10_entry Lx N x0 x1 ux = some (r, vx) ∧ fX11_entry N x0 x1 um = some (r, vm) ∧ Inv (k + 1) vx vm
/-- the step of name -/
def st_name (Inv : Nat → q_St → q_St → Prop) (Lx : Nat → Nat) (N : Nat) : Prop := ∀ (k : Nat) (ux um : q_St) (x0 : Int32) (x1 : Int32), k < 64 → Inv k ux um → ∃ (r : Int64) (vx vm : q_St), fX10_name Lx N x0 x1 ux = some (r, vx) ∧ fX11_name N x0 x1 um = some (r, vm) ∧ Inv (k + 1) vx vm
/-- the step of kind -/
def st_kind (Inv : Nat → q_St → q_St → Prop) (Lx : Nat → Nat) (N : Nat) : Prop := ∀ (k : Nat) (ux um : q_St) (x0 : Int32), k < 64 → Inv k ux um → ∃ (r : Int32) (vx vm : q_St), fX10_kind Lx N x0 ux = some (r, vx) ∧ fX11_kind N x0 um = some (r, vm) ∧ Inv (k + 1) vx vm
/-- the step of size -/
def st_size (Inv : Nat → q_St → q_St → Prop) (Lx : Nat → Nat) (N : Nat) : Prop := ∀ (k : Nat) (ux um : q_St) (x0 : Int32), k < 64 → Inv k ux um → ∃ (r : Int32) (vx vm : q_St), fX10_size Lx N x0 ux = some (r, vx) ∧ fX11_size N x0 um = some (r, vm) ∧ Inv (k + 1) vx vm
/-- the step of mode -/
def st_mode (Inv : Nat → q_St → q_St → Prop) (Lx : Nat → Nat) (N : Nat) : Prop := ∀ (k : Nat) (ux um : q_St) (x0 : Int32) (x1 : Int32), k < 64 → Inv k ux um → ∃ (r : Int32) (vx vm : q_St), fX10_mode Lx N x0 x1 ux = some (r, vx) ∧ fX11_mode N x0 x1 um = some (r, vm) ∧ Inv (k + 1) vx vm
/-- the step of give -/
def st_give (Inv : Nat → q_St → q_St → Prop) (Lx : Nat → Nat) (N : Nat) : Prop := ∀ (k : Nat) (ux um : q_St) (x0 : Int32) (x1 : Int32), k < 64 → Inv k ux um → ∃ (r : Int32) (vx vm : q_St), fX10_give Lx N x0 x1 ux = some (r, vx) ∧ fX11_give N x0 x1 um = some (r, vm) ∧ Inv (k + 1) vx vm
/-- the step of rights -/
def st_rights (Inv : Nat → q_St → q_St → Prop) (Lx : Nat → Nat) (N : Nat) : Prop := ∀ (k : Nat) (ux um : q_St) (x0 : Int32) (x1 : Int32), k < 64 → Inv k ux um → ∃ (r : Int32) (vx vm : q_St), fX10_rights Lx N x0 x1 ux = some (r, vx) ∧ fX11_rights N x0 x1 um = some (r, vm) ∧ Inv (k + 1) vx vm
/-- the step of links -/
def st_links (Inv : Nat → q_St → q_St → Prop) (Lx : Nat → Nat) (N : Nat) : Prop := ∀ (k : Nat) (ux um : q_St) (x0 : Int32), k < 64 → Inv k ux um → ∃ (r : Int32) (vx vm : q_St), fX10_links Lx N x0 ux = some (r, vx) ∧ fX11_links N x0 um = some (r, vm) ∧ Inv (k + 1) vx vm
/-- the step of parent -/
def st_parent (Inv : Nat → q_St → q_St → Prop) (Lx : Nat → Nat) (N : Nat) : Prop := ∀ (k : Nat) (ux um : q_St) (x0 : Int32), k < 64 → Inv k ux um → ∃ (r : Int32) (vx vm : q_St), fX10_parent Lx N x0 ux = some (r, vx) ∧ fX11_parent N x0 um = some (r, vm) ∧ Inv (k + 1) vx vm
/-- the step of block -/
def st_block (Inv : Nat → q_St → q_St → Prop) (Lx : Nat → Nat) (N : Nat) : Prop := ∀ (k : Nat) (ux um : q_St) (x0 : Int32) (x1 : Int32), k < 64 → Inv k ux um → ∃ (r : Int32) (vx vm : q_St), fX10_block Lx N x0 x1 ux = some (r, vx) ∧ fX11_block N x0 x1 um = some (r, vm) ∧ Inv (k + 1) vx vm
/-- the step of byteAt -/
def st_byteAt (Inv : Nat → q_St → q_St → Prop) (Lx : Nat → Nat) (N : Nat) : Prop := ∀ (k : Nat) (ux um : q_St) (x0 : Int32) (x1 : Int32), k < 64 → Inv k ux um → ∃ (r : Int32) (vx vm : q_St), fX10_byteAt Lx N x0 x1 ux = some (r, vx) ∧ fX11_byteAt N x0 x1 um = some (r, vm) ∧ Inv (k + 1) vx vm
/-- the step of check -/
def st_check (Inv : Nat → q_St → q_St → Prop) (Lx : Nat → Nat) (N : Nat) : Prop := ∀ (k : Nat) (ux um : q_St) , k < 64 → Inv k ux um → ∃ (r : Int32) (vx vm : q_St), fX10_check Lx N ux = some (r, vx) ∧ fX11_check N um = some (r, vm) ∧ Inv (k + 1) vx vm
/-- the step of scrub -/
def st_scrub (Inv : Nat → q_St → q_St → Prop) (Lx : Nat → Nat) (N : Nat) : Prop := ∀ (k : Nat) (ux um : q_St) , k < 64 → Inv k ux um → ∃ (r : Int32) (vx vm : q_St), fX10_scrub Lx N ux = some (r, vx) ∧ fX11_scrub N um = some (r, vm) ∧ Inv (k + 1) vx vm
/-- the step of sync -/
def st_sync (Inv : Nat → q_St → q_St → Prop) (Lx : Nat → Nat) (N : Nat) : Prop := ∀ (k : Nat) (ux um : q_St) , k < 64 → Inv k ux um → ∃ (r : Int32) (vx vm : q_St), fX10_sync Lx N ux = some (r, vx) ∧ fX11_sync N um = some (r, vm) ∧ Inv (k + 1) vx vm
/-- the step of clean -/
def st_clean (Inv : Nat → q_St → q_St → Prop) (Lx : Nat → Nat) (N : Nat) : Prop := ∀ (k : Nat) (ux um : q_St) , k < 64 → Inv k ux um → ∃ (r : Int32) (vx vm : q_St), fX10_clean Lx N ux = some (r, vx) ∧ fX11_clean N um = some (r, vm) ∧ Inv (k + 1) vx vm
/-- the step of power -/
def st_power (Inv : Nat → q_St → q_St → Prop) (Lx : Nat → Nat) (N : Nat) : Prop := ∀ (k : Nat) (ux um : q_St) (x0 : Int32), k < 64 → Inv k ux um → ∃ (r : Int32) (vx vm : q_St), fX10_power Lx N x0 ux = some (r, vx) ∧ fX11_power N x0 um = some (r, vm) ∧ Inv (k + 1) vx vm
/-- the step of restore -/
def st_restore (Inv : Nat → q_St → q_St → Prop) (Lx : Nat → Nat) (N : Nat) : Prop := ∀ (k : Nat) (ux um : q_St) , k < 64 → Inv k ux um → ∃ (r : Int32) (vx vm : q_St), fX10_restore Lx N ux = some (r, vx) ∧ fX11_restore N um = some (r, vm) ∧ Inv (k + 1) vx vm
/-- the step of where -/
def st_where (Inv : Nat → q_St → q_St → Prop) (Lx : Nat → Nat) (N : Nat) : Prop := ∀ (k : Nat) (ux um : q_St) (x0 : Int32), k < 64 → Inv k ux um → ∃ (r : Int32) (vx vm : q_St), fX10_where Lx N x0 ux = some (r, vx) ∧ fX11_where N x0 um = some (r, vm) ∧ Inv (k + 1) vx vm
/-- the step of mark -/
def st_mark (Inv : Nat → q_St → q_St → Prop) (Lx : Nat → Nat) (N : Nat) : Prop := ∀ (k : Nat) (ux um : q_St) (x0 : Int32), k < 64 → Inv k ux um → ∃ (r : Int32) (vx vm : q_St), fX10_mark Lx N x0 ux = some (r, vx) ∧ fX11_mark N x0 um = some (r, vm) ∧ Inv (k + 1) vx vm
/-- the step of count -/
def st_count (Inv : Nat → q_St → q_St → Prop) (Lx : Nat → Nat) (N : Nat) : Prop := ∀ (k : Nat) (ux um : q_St) (x0 : Int32), k < 64 → Inv k ux um → ∃ (r : Int32) (vx vm : q_St), fX10_count Lx N x0 ux = some (r, vx) ∧ fX11_count N x0 um = some (r, vm) ∧ Inv (k + 1) vx vm
def lq_Steps (Inv : Nat → q_St → q_St → Prop) (Lx : Nat → Nat) (N : Nat) : Prop := st_feed Inv Lx N ∧ st_end Inv Lx N ∧ st_as Inv Lx N ∧ st_make Inv Lx N ∧ st_dir Inv Lx N ∧ st_lay Inv Lx N ∧ st_point Inv Lx N ∧ st_link Inv Lx N ∧ st_put Inv Lx N ∧ st_cut Inv Lx N ∧ st_drop Inv Lx N ∧ st_rename Inv Lx N ∧ st_find Inv Lx N ∧ st_walk Inv Lx N ∧ st_entry Inv Lx N ∧ st_name Inv Lx N ∧ st_kind Inv Lx N ∧ st_size Inv Lx N ∧ st_mode Inv Lx N ∧ st_give Inv Lx N ∧ st_rights Inv Lx N ∧ st_links Inv Lx N ∧ st_parent Inv Lx N ∧ st_block Inv Lx N ∧ st_byteAt Inv Lx N ∧ st_check Inv Lx N ∧ st_scrub Inv Lx N ∧ st_sync Inv Lx N ∧ st_clean Inv Lx N ∧ st_power Inv Lx N ∧ st_restore Inv Lx N ∧ st_where Inv Lx N ∧ st_mark Inv Lx N ∧ st_count Inv Lx N
