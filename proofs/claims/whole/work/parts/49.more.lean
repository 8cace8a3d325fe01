section LQ
variable {p : Program} {l : Launch} {e : Env} {R : Room} {s : State} {m : MethodId} {args : Array Value} {below : List Frame} {meth : Method} {c : Code} {H : Heap} {locs : List Loc} {cells slots : Nat} {Q : State → Prop}
variable {cc : ByteArray} {pc : Nat} {ls : Array Slot} {rest : List Value} {D : va_G} {cl : List vw_C} {A A0 : Nat → Prop} {tys : List (ClassId × FieldType)} {w2 : va_W} {H0 : Heap} {Wd : q_St → va_W} {σ σ0 σ1 : q_St}
variable {y : MethodName} {bytes : ByteArray} {maxL n index q0 ci N nL : Nat} {ret : Option FieldType} {rm : Room} {own C : String} {T : u_T} {fs : List Value} {b : Nat} {As st0 : List Value} {Qc : Array Value → State → Outcome → State → Prop}
theorem lq_runV (hx : p.tables.exec = Jvm.exec) (hb : c.code = cc) (hml : c.maxLocals = nL) (hown : s.vm.findClass own = some m.cls) (hts : ∀ w ∈ q_T, w.before args s = true) (hK : va_K D cl tys s) (hP : va_P D cl (Wd σ) H)
    (hM : Met l y (Cond.code y bytes maxL ret :: q_T) rm (q_P D cl tys Wd (.ref b :: As) σ) Qc 0 0 A) (cw : q_cwV own index C y bytes maxL ret n) (hrc : rm.cells = 0) (hrs : rm.slots = 0) (hR : rm.frames + 1 ≤ R.frames ∧ 8 + (maxL + 11) + rm.locals ≤ R.locals)
    (he : (Wd σ)[q0]? = some (b, .inr (ci, fs))) (hc : cl[ci]? = some (C, T, N)) (hn : As.length = n) (hls : ls.size = nL) (hst : st0 = As.reverse ++ .ref b :: rest) (hW : (rest.map fun v => v.category).sum ≤ 8) (hdg : decode cc pc = .ok (.invokevirtual index, 3)) (hf : cells + 0 ≤ R.cells ∧ slots + 0 ≤ R.slots) :
    va_Run p l e R s m args below meth c H locs cells slots 0 0 (F0 m pc ls st0) rest (Qc (Value.ref b :: As).toArray) A := by
  obtain ⟨⟨w1, w2, w3, hd1, hd⟩, w4, w5⟩ := cw
  refine va_runV (ws := Cond.code y bytes maxL ret :: q_T) (rm := rm) (bytes := bytes) (maxL := maxL) (ret := ret) (C := C) (n := n) (index := index) (As := As) (b := b) ⟨hx, hb, hml, hown, hts⟩ hM ⟨callB_of n hts (q_good w1) rfl hrc hrs (by rw [hd1]; exact hts _ w3) (hts _ w2) hd hR, hts _ w4, hts _ w5⟩ ⟨q_blind, va_recv hK hP hc he, fun U hU hW => ⟨rfl, by rw [hU]; exact hP, va_K.moved hW.alike hK⟩⟩ rfl hn hls hst (lv_room hW) hdg hf
theorem lq_runS (hx : p.tables.exec = Jvm.exec) (hb : c.code = cc) (hml : c.maxLocals = nL) (hown : s.vm.findClass own = some m.cls) (hts : ∀ w ∈ q_T, w.before args s = true) (hK : va_K D cl tys s) (hP : va_P D cl (Wd σ) H)
    (hM : Met l y (Cond.code y bytes maxL ret :: q_T) rm (q_P D cl tys Wd As σ) Qc 0 0 A) (cw : q_cwS own index C y bytes maxL ret n) (hrc : rm.cells = 0) (hrs : rm.slots = 0) (hR : rm.frames + 1 ≤ R.frames ∧ 8 + (maxL + 11) + rm.locals ≤ R.locals)
    (hn : As.length = n) (hls : ls.size = nL) (hst : st0 = As.reverse ++ rest) (hW : (rest.map fun v => v.category).sum ≤ 8) (hdg : decode cc pc = .ok (.invokestatic index, 3)) (hf : cells + 0 ≤ R.cells ∧ slots + 0 ≤ R.slots) :
    va_Run p l e R s m args below meth c H locs cells slots 0 0 (F0 m pc ls st0) rest (Qc As.toArray) A := by
  obtain ⟨⟨w1, w2, w3, hd1, hd⟩, w4⟩ := cw
  refine va_runS (ws := Cond.code y bytes maxL ret :: q_T) (rm := rm) (bytes := bytes) (maxL := maxL) (ret := ret) (n := n) (index := index) (As := As) ⟨hx, hb, hml, hown, hts⟩ hM ⟨callB_of n hts (q_good w1) rfl hrc hrs (by rw [hd1]; exact hts _ w3) (hts _ w2) hd hR, hts _ w4⟩ ⟨q_blind, fun U hU hW => ⟨rfl, by rw [hU]; exact hP, va_K.moved hW.alike hK⟩⟩ rfl hn hls hst (lv_room hW) hdg hf
theorem lq_kept {H1 : Heap} (hP2 : va_P D cl w2 H) (hdis : ∀ (k : Nat) (q : Nat × va_E), w2[k]? = some q → ¬ A q.1) (hk : ∀ q : Nat, q < H.size → ¬ A q → H1[q]? = H[q]?) : va_P D cl w2 H1 := hP2.kept (fun k q h => hk q.1 ((hP2 k q h).lt) (hdis k q h))
theorem lq_ci {r1 : Int32} {a : Array Value} (hr : va_Run p l e R s m args below meth c H locs cells slots 0 0 (F0 m pc ls st0) rest (q_Qi D cl Wd A r1 σ1 a) A) (hS : va_S A0 s.heap H locs) (hA : ∀ q, A q → A0 q) (hP2 : va_P D cl w2 H) (hdis : ∀ (k : Nat) (q : Nat × va_E), w2[k]? = some q → ¬ A q.1)
    (kk : ∀ (H : Heap) (locs : List Loc), va_P D cl (Wd σ1) H → va_P D cl w2 H → va_S A0 s.heap H locs → W p l e R s m args below meth c H locs cells slots Q (F0 m (pc + 3) ls (.int r1 :: rest))) : W p l e R s m args below meth c H locs cells slots Q (F0 m pc ls st0) :=
  va_calli hr hS (fun q _ h => hA q h) (fun q h => hA q h) (fun r u t H1 locs1 ht hvm hw hB hz hk hS1 => by
    obtain ⟨rfl, rfl⟩ := hw
    exact kk H1 locs1 (by rw [← ht]; exact hB) (lq_kept hP2 hdis hk) hS1)
theorem lq_cl {r1 : Int64} {a : Array Value} (hr : va_Run p l e R s m args below meth c H locs cells slots 0 0 (F0 m pc ls st0) rest (q_Ql D cl Wd A r1 σ1 a) A) (hS : va_S A0 s.heap H locs) (hA : ∀ q, A q → A0 q) (hP2 : va_P D cl w2 H) (hdis : ∀ (k : Nat) (q : Nat × va_E), w2[k]? = some q → ¬ A q.1)
    (kk : ∀ (H : Heap) (locs : List Loc), va_P D cl (Wd σ1) H → va_P D cl w2 H → va_S A0 s.heap H locs → W p l e R s m args below meth c H locs cells slots Q (F0 m (pc + 3) ls (.long r1 :: rest))) : W p l e R s m args below meth c H locs cells slots Q (F0 m pc ls st0) :=
  va_calll hr hS (fun q _ h => hA q h) (fun q h => hA q h) (fun r u t H1 locs1 ht hvm hw hB hz hk hS1 => by
    obtain ⟨rfl, rfl⟩ := hw
    exact kk H1 locs1 (by rw [← ht]; exact hB) (lq_kept hP2 hdis hk) hS1)
theorem lq_sld (hx : p.tables.exec = Jvm.exec) (hb : c.code = cc) {b L : Nat} {xs : Nat → Int32} (hX : va_X b L xs s H0) (hbl : b < H0.size) (hbA : ¬ A b) (hS : va_S A H0 H locs) {i j : Nat} {J : Int32} (hJ : J = nI j) (hij : i + j < L) (hL : L ≤ 452) (hdg : decode cc pc = .ok (.iaload, 1))
    (kk : W p l e R s m args below meth c H locs cells slots Q (F0 m (pc + 1) ls (.int (xs (i + j)) :: rest))) : W p l e R s m args below meth c H locs cells slots Q (F0 m pc ls (.int (nI i + J) :: .ref b :: rest)) := by
  subst hJ
  rw [nI_add]
  refine va_sld hx hb hX hbl hbA hS (vp_in_nI hij (by omega)) hdg ?_
  rw [nI_clamp (by omega)]
  exact kk
end LQ
