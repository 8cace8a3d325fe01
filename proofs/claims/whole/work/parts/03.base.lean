/-! ===== the functional picture: states, and what a method's walk answers ===== -/
abbrev q_St : Type := (Nat → Int32) × (Nat → Nat → Int32) × (Nat → Nat → Int64)
def q_i (σ : q_St) (k : Nat) : Int32 := σ.1 k
def q_a (σ : q_St) (k : Nat) : Nat → Int32 := σ.2.1 k
def q_j (σ : q_St) (k : Nat) : Nat → Int64 := σ.2.2 k
def q_si (σ : q_St) (k : Nat) (v : Int32) : q_St := (fun j => if j = k then v else σ.1 j, σ.2)
def q_sa (σ : q_St) (k : Nat) (f : Nat → Int32) : q_St := (σ.1, fun j => if j = k then f else σ.2.1 j, σ.2.2)
def q_sj (σ : q_St) (k : Nat) (f : Nat → Int64) : q_St := (σ.1, σ.2.1, fun j => if j = k then f else σ.2.2 j)
def q_bnd {ρ β : Type} (x : Option (ρ × q_St)) (K : ρ → q_St → Option β) : Option β := match x with
  | none => none
  | some q => K q.1 q.2
def q_nm {α β : Type} (v : α) (K : α → Option β) : Option β := K v
def q_rd {α β : Type} (n : Nat) (f : Nat → α) (i : Int32) (K : α → Option β) : Option β := if i < 0 ∨ n ≤ i.toNatClampNeg then none else K (f i.toNatClampNeg)
def q_wa {β : Type} (n : Nat) (i : Int32) (σ1 : q_St) (K : q_St → Option β) : Option β := if i < 0 ∨ n ≤ i.toNatClampNeg then none else K σ1
def q_dv {β : Type} (y : Int32) (K : Option β) : Option β := if y = 0 then none else K
def q_rz (v : Int32) (σ : q_St) : Option (Int32 × q_St) := if v = 0 ∨ v = 1 then some (v, σ) else none
def q_cp {β : Type} (n0 n1 : Nat) (sp dp n : Int32) (σ1 : q_St) (K : q_St → Option β) : Option β := if (sp < 0 ∨ dp < 0 ∨ n < 0) ∨ (n0 < sp.toNatClampNeg + n.toNatClampNeg ∨ n1 < dp.toNatClampNeg + n.toNatClampNeg) then none else K σ1
def q_lp {F : Type} (b : F → F) (z : F) : Nat → F
  | 0 => z
  | n + 1 => b (q_lp b z n)
theorem q_lp_s {F : Type} (b : F → F) (z : F) (n : Nat) : q_lp b z (n + 1) = b (q_lp b z n) := rfl
def q_max (x y : Int32) : Int32 := if x < y then y else x
def q_min (x y : Int32) : Int32 := if y < x then y else x
def q_lush (x : Int64) (y : Int32) : Int64 := (x.toUInt64 >>> (y.toInt64.toUInt64 &&& Int64.toUInt64 63)).toInt64
def q_lshl (x : Int64) (y : Int32) : Int64 := x <<< (y.toInt64 &&& 63)
def q_lshr (x : Int64) (y : Int32) : Int64 := x >>> (y.toInt64 &&& 63)
def q_iush (x y : Int32) : Int32 := (x.toUInt32 >>> (y.toUInt32 &&& Int32.toUInt32 31)).toInt32
theorem q_bnd_some {ρ β : Type} {x : Option (ρ × q_St)} {K : ρ → q_St → Option β} {z : β} (h : q_bnd x K = some z) : ∃ (r : ρ) (σ1 : q_St), x = some (r, σ1) ∧ K r σ1 = some z := by
  cases x with
  | none => exact absurd h (by intro h; cases h)
  | some q => exact ⟨q.1, q.2, rfl, h⟩
theorem q_rd_some {α β : Type} {n : Nat} {f : Nat → α} {i : Int32} {K : α → Option β} {z : β} (h : q_rd n f i K = some z) : vp_in i n ∧ K (f i.toNatClampNeg) = some z := by
  unfold q_rd at h
  by_cases c : i < 0 ∨ n ≤ i.toNatClampNeg
  · rw [if_pos c] at h; cases h
  · rw [if_neg c] at h; exact ⟨c, h⟩
theorem q_wa_some {β : Type} {n : Nat} {i : Int32} {σ1 : q_St} {K : q_St → Option β} {z : β} (h : q_wa n i σ1 K = some z) : vp_in i n ∧ K σ1 = some z := by
  unfold q_wa at h
  by_cases c : i < 0 ∨ n ≤ i.toNatClampNeg
  · rw [if_pos c] at h; cases h
  · rw [if_neg c] at h; exact ⟨c, h⟩
theorem q_dv_some {β : Type} {y : Int32} {K : Option β} {z : β} (h : q_dv y K = some z) : ¬ y = 0 ∧ K = some z := by
  unfold q_dv at h
  by_cases c : y = 0
  · rw [if_pos c] at h; cases h
  · rw [if_neg c] at h; exact ⟨c, h⟩
theorem q_rz_some {v : Int32} {σ : q_St} {z : Int32 × q_St} (h : q_rz v σ = some z) : (v = 0 ∨ v = 1) ∧ (some (v, σ) : Option (Int32 × q_St)) = some z := by
  unfold q_rz at h
  by_cases c : v = 0 ∨ v = 1
  · rw [if_pos c] at h; exact ⟨c, h⟩
  · rw [if_neg c] at h; cases h
theorem q_cp_some {β : Type} {n0 n1 : Nat} {sp dp n : Int32} {σ1 : q_St} {K : q_St → Option β} {z : β} (h : q_cp n0 n1 sp dp n σ1 K = some z) : (¬ sp < 0 ∧ ¬ dp < 0 ∧ ¬ n < 0 ∧ sp.toNatClampNeg + n.toNatClampNeg ≤ n0 ∧ dp.toNatClampNeg + n.toNatClampNeg ≤ n1) ∧ K σ1 = some z := by
  unfold q_cp at h
  by_cases c : (sp < 0 ∨ dp < 0 ∨ n < 0) ∨ (n0 < sp.toNatClampNeg + n.toNatClampNeg ∨ n1 < dp.toNatClampNeg + n.toNatClampNeg)
  · rw [if_pos c] at h; cases h
  · rw [if_neg c] at h
    refine ⟨⟨fun q => c (Or.inl (Or.inl q)), fun q => c (Or.inl (Or.inr (Or.inl q))), fun q => c (Or.inl (Or.inr (Or.inr q))), ?_, ?_⟩, h⟩
    · exact Nat.not_lt.mp (fun q => c (Or.inr (Or.inl q)))
    · exact Nat.not_lt.mp (fun q => c (Or.inr (Or.inr q)))
/-! ===== the words: all good ones of the tables, in every method ===== -/
def q_T : List Cond := lw_tbl.filter goodWord
theorem q_in {w : Cond} (h : w ∈ lw_tbl) (g : goodWord w = true) : w ∈ q_T := List.mem_filter.mpr ⟨h, g⟩
theorem q_mt {w : Cond} (i : Nat) (h : tables_1[i]? = some w) (g : goodWord w = true) : w ∈ q_T := q_in (List.mem_append_right _ (List.mem_of_getElem? h)) g
theorem q_ms {w : Cond} (i : Nat) (h : (k2_sels lw_privs)[i]? = some w) (g : goodWord w = true) : w ∈ q_T := q_in (List.mem_append_left _ (List.mem_of_getElem? h)) g
theorem q_good {w : Cond} (h : w ∈ q_T) : GoodIn q_T (w :: q_T) := by
  intro v hv
  have hv : v ∈ q_T := by
    rcases List.mem_cons.mp hv with q | q
    · rw [q]; exact h
    · exact q
  exact ⟨hv, good_of_word (List.mem_filter.mp hv).2⟩
theorem q_ts {w : Cond} {args : Array Value} {s : State} (h : ∀ v ∈ w :: q_T, v.before args s = true) : ∀ v ∈ q_T, v.before args s = true := fun v hv => h v (List.mem_cons_of_mem _ hv)
/-- a call's words -/
def q_cw (own : String) (idx : Nat) (C : String) (y : MethodName) (bytes : ByteArray) (maxL : Nat) (ret : Option FieldType) (n : Nat) : Prop :=
  Cond.code y bytes maxL ret ∈ q_T ∧ Cond.methodLink own idx y ∈ q_T ∧ Cond.initialized C ∈ q_T ∧ (y.cls = C ∧ y.cls ≠ "java/lang/invoke/MethodHandle" ∧ y.cls ≠ "java/lang/invoke/VarHandle" ∧ (parseMethodDescriptor y.desc).map (fun d => d.parameters.length) = some n)
def q_cwV (own : String) (idx : Nat) (C : String) (y : MethodName) (bytes : ByteArray) (maxL : Nat) (ret : Option FieldType) (n : Nat) : Prop :=
  q_cw own idx C y bytes maxL ret n ∧ Cond.instanceMethod y ∈ q_T ∧ Cond.selects C y y ∈ q_T
def q_cwS (own : String) (idx : Nat) (C : String) (y : MethodName) (bytes : ByteArray) (maxL : Nat) (ret : Option FieldType) (n : Nat) : Prop :=
  q_cw own idx C y bytes maxL ret n ∧ Cond.static y ∈ q_T
/-! ===== a method's start and end over a world that is a function of the state ===== -/
def q_P (D : va_G) (cl : List vw_C) (tys : List (ClassId × FieldType)) (Wd : q_St → va_W) (av : List Value) (σ : q_St) : Array Value → State → Prop := va_Pc av (fun U => va_P D cl (Wd σ) U.heap ∧ va_K D cl tys U)
def q_Qi (D : va_G) (cl : List vw_C) (Wd : q_St → va_W) (A : Nat → Prop) (r0 : Int32) (σ0 : q_St) : Array Value → State → Outcome → State → Prop := va_Qi (fun r (u : q_St) => r = r0 ∧ u = σ0) (fun u t => va_P D cl (Wd u) t.heap) A
def q_Ql (D : va_G) (cl : List vw_C) (Wd : q_St → va_W) (A : Nat → Prop) (r0 : Int64) (σ0 : q_St) : Array Value → State → Outcome → State → Prop := va_Ql (fun r (u : q_St) => r = r0 ∧ u = σ0) (fun u t => va_P D cl (Wd u) t.heap) A
def q_Qv (D : va_G) (cl : List vw_C) (Wd : q_St → va_W) (A : Nat → Prop) (σ0 : q_St) : Array Value → State → Outcome → State → Prop := va_Qv (fun (u : q_St) => u = σ0) (fun u t => va_P D cl (Wd u) t.heap) A
theorem q_blind {D : va_G} {cl : List vw_C} {tys : List (ClassId × FieldType)} {Wd : q_St → va_W} {av : List Value} {σ : q_St} : FrameBlind (q_P D cl tys Wd av σ) := fun a U g mk q => by
  obtain ⟨q0, qP, qK⟩ := q
  exact ⟨q0, qP, va_K.moved (u := U) (U := U.calling g mk a) (Vm.Alike.refl U.vm) qK⟩
section QSX
variable {p : Program} {l : Launch} {e : Env} {R : Room} {s : State} {m : MethodId} {args : Array Value} {below : List Frame} {meth : Method} {c : Code} {H : Heap} {locs : List Loc} {cells slots : Nat} {Q : State → Prop}
variable {cc : ByteArray} {pc : Nat} {ls : Array Slot} {rest : List Value} {D : va_G} {cl : List vw_C} {A : Nat → Prop} {tys : List (ClassId × FieldType)} {ws : va_W} {H0 : Heap} {Wd : q_St → va_W} {σ σ0 σ1 : q_St} {β : Type} {z : β} {a : Nat}
/-! stores into locals, with a name for the value -/
theorem sx_istore_n (hx : p.tables.exec = Jvm.exec) (hb : c.code = cc) {k : Fin 4} {i nL : Nat} {x : Int32} {lv lv2 : List (Nat × Value)} {K : Int32 → Option β} (hF : q_nm x K = some z) (hdg : decode cc pc = .ok (.istore_n k, 1)) (hi : (k : Nat) = i) (h : lv_has ls nL lv) (hn : i < nL) (hl : lv.filter (fun q => !(q.1 == i) && !(q.1 + 1 == i && q.2.category == 2)) = lv2)
    (kk : ∀ v : Int32, K v = some z → ∀ ls' : Array Slot, lv_has ls' nL ((i, .int v) :: lv2) → W p l e R s m args below meth c H locs cells slots Q (F0 m (pc + 1) ls' rest)) : W p l e R s m args below meth c H locs cells slots Q (F0 m pc ls (.int x :: rest)) :=
  lv_istore_n (lv' := (i, .int x) :: lv2) hx hb hdg hi h hn (by rw [hl]) (fun ls' hl' => kk x hF ls' hl')
theorem sx_istore (hx : p.tables.exec = Jvm.exec) (hb : c.code = cc) {i nL : Nat} {x : Int32} {lv lv2 : List (Nat × Value)} {K : Int32 → Option β} (hF : q_nm x K = some z) (hdg : decode cc pc = .ok (.istore i, 2)) (h : lv_has ls nL lv) (hn : i < nL) (hl : lv.filter (fun q => !(q.1 == i) && !(q.1 + 1 == i && q.2.category == 2)) = lv2)
    (kk : ∀ v : Int32, K v = some z → ∀ ls' : Array Slot, lv_has ls' nL ((i, .int v) :: lv2) → W p l e R s m args below meth c H locs cells slots Q (F0 m (pc + 2) ls' rest)) : W p l e R s m args below meth c H locs cells slots Q (F0 m pc ls (.int x :: rest)) :=
  lv_istore (lv' := (i, .int x) :: lv2) hx hb hdg h hn (by rw [hl]) (fun ls' hl' => kk x hF ls' hl')
theorem sx_lstore_n (hx : p.tables.exec = Jvm.exec) (hb : c.code = cc) {k : Fin 4} {i nL : Nat} {x : Int64} {lv lv2 : List (Nat × Value)} {K : Int64 → Option β} (hF : q_nm x K = some z) (hdg : decode cc pc = .ok (.lstore_n k, 1)) (hi : (k : Nat) = i) (h : lv_has ls nL lv) (hn : i + 1 < nL) (hl : lv.filter (fun q => !(q.1 == i) && (!(q.1 == i + 1) && !(q.1 + 1 == i && q.2.category == 2))) = lv2)
    (kk : ∀ v : Int64, K v = some z → ∀ ls' : Array Slot, lv_has ls' nL ((i, .long v) :: lv2) → W p l e R s m args below meth c H locs cells slots Q (F0 m (pc + 1) ls' rest)) : W p l e R s m args below meth c H locs cells slots Q (F0 m pc ls (.long x :: rest)) :=
  lv_lstore_n (lv' := (i, .long x) :: lv2) hx hb hdg hi h hn (by rw [hl]) (fun ls' hl' => kk x hF ls' hl')
theorem sx_lstore (hx : p.tables.exec = Jvm.exec) (hb : c.code = cc) {i nL : Nat} {x : Int64} {lv lv2 : List (Nat × Value)} {K : Int64 → Option β} (hF : q_nm x K = some z) (hdg : decode cc pc = .ok (.lstore i, 2)) (h : lv_has ls nL lv) (hn : i + 1 < nL) (hl : lv.filter (fun q => !(q.1 == i) && (!(q.1 == i + 1) && !(q.1 + 1 == i && q.2.category == 2))) = lv2)
    (kk : ∀ v : Int64, K v = some z → ∀ ls' : Array Slot, lv_has ls' nL ((i, .long v) :: lv2) → W p l e R s m args below meth c H locs cells slots Q (F0 m (pc + 2) ls' rest)) : W p l e R s m args below meth c H locs cells slots Q (F0 m pc ls (.long x :: rest)) :=
  lv_lstore (lv' := (i, .long x) :: lv2) hx hb hdg h hn (by rw [hl]) (fun ls' hl' => kk x hF ls' hl')
theorem sx_iinc (hx : p.tables.exec = Jvm.exec) (hb : c.code = cc) {i nL k : Nat} {n : Int} {x d : Int32} {lv lv2 : List (Nat × Value)} {K : Int32 → Option β} (hF : q_nm (x + d) K = some z) (hdg : decode cc pc = .ok (.iinc i n, 3)) (h : lv_has ls nL lv) (hk : lv[k]? = some (i, .int x)) (hv : Int32.ofInt n = d) (hn : i < nL) (hl : lv.filter (fun q => !(q.1 == i) && !(q.1 + 1 == i && q.2.category == 2)) = lv2)
    (kk : ∀ v : Int32, K v = some z → ∀ ls' : Array Slot, lv_has ls' nL ((i, .int v) :: lv2) → W p l e R s m args below meth c H locs cells slots Q (F0 m (pc + 3) ls' rest)) : W p l e R s m args below meth c H locs cells slots Q (F0 m pc ls rest) :=
  lv_iinc (v := x + d) (lv' := (i, .int (x + d)) :: lv2) hx hb hdg h hk (by rw [hv]) hn (by rw [hl]) (fun ls' hl' => kk (x + d) hF ls' hl')
/-! branches -/
theorem sx_if_eq (hx : p.tables.exec = Jvm.exec) (hb : c.code = cc) {x : Int32} {off : Int} {tgt : Nat} {K1 K2 : Option β} (hF : (if x = 0 then K1 else K2) = some z) (hdg : decode cc pc = .ok (.ifCond .eq off, 3)) (ht : (pc : Int) + off = (tgt : Int)) (kt : K1 = some z → W p l e R s m args below meth c H locs cells slots Q (F0 m tgt ls rest)) (kf : K2 = some z → W p l e R s m args below meth c H locs cells slots Q (F0 m (pc + 3) ls rest)) : W p l e R s m args below meth c H locs cells slots Q (F0 m pc ls (.int x :: rest)) :=
  lv_if_eq hx hb hdg ht (fun c => kt ((if_pos c).symm.trans hF)) (fun c => kf ((if_neg c).symm.trans hF))
theorem sx_icmp_eq (hx : p.tables.exec = Jvm.exec) (hb : c.code = cc) {x y : Int32} {off : Int} {tgt : Nat} {K1 K2 : Option β} (hF : (if x = y then K1 else K2) = some z) (hdg : decode cc pc = .ok (.if_icmp .eq off, 3)) (ht : (pc : Int) + off = (tgt : Int)) (kt : K1 = some z → W p l e R s m args below meth c H locs cells slots Q (F0 m tgt ls rest)) (kf : K2 = some z → W p l e R s m args below meth c H locs cells slots Q (F0 m (pc + 3) ls rest)) : W p l e R s m args below meth c H locs cells slots Q (F0 m pc ls (.int y :: .int x :: rest)) :=
  lv_icmp_eq hx hb hdg ht (fun c => kt ((if_pos c).symm.trans hF)) (fun c => kf ((if_neg c).symm.trans hF))
theorem sx_if_ne (hx : p.tables.exec = Jvm.exec) (hb : c.code = cc) {x : Int32} {off : Int} {tgt : Nat} {K1 K2 : Option β} (hF : (if x = 0 then K2 else K1) = some z) (hdg : decode cc pc = .ok (.ifCond .ne off, 3)) (ht : (pc : Int) + off = (tgt : Int)) (kt : K1 = some z → W p l e R s m args below meth c H locs cells slots Q (F0 m tgt ls rest)) (kf : K2 = some z → W p l e R s m args below meth c H locs cells slots Q (F0 m (pc + 3) ls rest)) : W p l e R s m args below meth c H locs cells slots Q (F0 m pc ls (.int x :: rest)) :=
  lv_if_ne hx hb hdg ht (fun c => kt ((if_neg c).symm.trans hF)) (fun c => kf ((if_pos c).symm.trans hF))
theorem sx_icmp_ne (hx : p.tables.exec = Jvm.exec) (hb : c.code = cc) {x y : Int32} {off : Int} {tgt : Nat} {K1 K2 : Option β} (hF : (if x = y then K2 else K1) = some z) (hdg : decode cc pc = .ok (.if_icmp .ne off, 3)) (ht : (pc : Int) + off = (tgt : Int)) (kt : K1 = some z → W p l e R s m args below meth c H locs cells slots Q (F0 m tgt ls rest)) (kf : K2 = some z → W p l e R s m args below meth c H locs cells slots Q (F0 m (pc + 3) ls rest)) : W p l e R s m args below meth c H locs cells slots Q (F0 m pc ls (.int y :: .int x :: rest)) :=
  lv_icmp_ne hx hb hdg ht (fun c => kt ((if_neg c).symm.trans hF)) (fun c => kf ((if_pos c).symm.trans hF))
theorem sx_if_lt (hx : p.tables.exec = Jvm.exec) (hb : c.code = cc) {x : Int32} {off : Int} {tgt : Nat} {K1 K2 : Option β} (hF : (if x < 0 then K1 else K2) = some z) (hdg : decode cc pc = .ok (.ifCond .lt off, 3)) (ht : (pc : Int) + off = (tgt : Int)) (kt : K1 = some z → W p l e R s m args below meth c H locs cells slots Q (F0 m tgt ls rest)) (kf : K2 = some z → W p l e R s m args below meth c H locs cells slots Q (F0 m (pc + 3) ls rest)) : W p l e R s m args below meth c H locs cells slots Q (F0 m pc ls (.int x :: rest)) :=
  lv_if_lt hx hb hdg ht (fun c => kt ((if_pos c).symm.trans hF)) (fun c => kf ((if_neg c).symm.trans hF))
theorem sx_icmp_lt (hx : p.tables.exec = Jvm.exec) (hb : c.code = cc) {x y : Int32} {off : Int} {tgt : Nat} {K1 K2 : Option β} (hF : (if x < y then K1 else K2) = some z) (hdg : decode cc pc = .ok (.if_icmp .lt off, 3)) (ht : (pc : Int) + off = (tgt : Int)) (kt : K1 = some z → W p l e R s m args below meth c H locs cells slots Q (F0 m tgt ls rest)) (kf : K2 = some z → W p l e R s m args below meth c H locs cells slots Q (F0 m (pc + 3) ls rest)) : W p l e R s m args below meth c H locs cells slots Q (F0 m pc ls (.int y :: .int x :: rest)) :=
  lv_icmp_lt hx hb hdg ht (fun c => kt ((if_pos c).symm.trans hF)) (fun c => kf ((if_neg c).symm.trans hF))
theorem sx_if_ge (hx : p.tables.exec = Jvm.exec) (hb : c.code = cc) {x : Int32} {off : Int} {tgt : Nat} {K1 K2 : Option β} (hF : (if 0 ≤ x then K1 else K2) = some z) (hdg : decode cc pc = .ok (.ifCond .ge off, 3)) (ht : (pc : Int) + off = (tgt : Int)) (kt : K1 = some z → W p l e R s m args below meth c H locs cells slots Q (F0 m tgt ls rest)) (kf : K2 = some z → W p l e R s m args below meth c H locs cells slots Q (F0 m (pc + 3) ls rest)) : W p l e R s m args below meth c H locs cells slots Q (F0 m pc ls (.int x :: rest)) :=
  lv_if_ge hx hb hdg ht (fun c => kt ((if_pos c).symm.trans hF)) (fun c => kf ((if_neg c).symm.trans hF))
theorem sx_icmp_ge (hx : p.tables.exec = Jvm.exec) (hb : c.code = cc) {x y : Int32} {off : Int} {tgt : Nat} {K1 K2 : Option β} (hF : (if y ≤ x then K1 else K2) = some z) (hdg : decode cc pc = .ok (.if_icmp .ge off, 3)) (ht : (pc : Int) + off = (tgt : Int)) (kt : K1 = some z → W p l e R s m args below meth c H locs cells slots Q (F0 m tgt ls rest)) (kf : K2 = some z → W p l e R s m args below meth c H locs cells slots Q (F0 m (pc + 3) ls rest)) : W p l e R s m args below meth c H locs cells slots Q (F0 m pc ls (.int y :: .int x :: rest)) :=
  lv_icmp_ge hx hb hdg ht (fun c => kt ((if_pos c).symm.trans hF)) (fun c => kf ((if_neg c).symm.trans hF))
theorem sx_if_gt (hx : p.tables.exec = Jvm.exec) (hb : c.code = cc) {x : Int32} {off : Int} {tgt : Nat} {K1 K2 : Option β} (hF : (if 0 < x then K1 else K2) = some z) (hdg : decode cc pc = .ok (.ifCond .gt off, 3)) (ht : (pc : Int) + off = (tgt : Int)) (kt : K1 = some z → W p l e R s m args below meth c H locs cells slots Q (F0 m tgt ls rest)) (kf : K2 = some z → W p l e R s m args below meth c H locs cells slots Q (F0 m (pc + 3) ls rest)) : W p l e R s m args below meth c H locs cells slots Q (F0 m pc ls (.int x :: rest)) :=
  lv_if_gt hx hb hdg ht (fun c => kt ((if_pos c).symm.trans hF)) (fun c => kf ((if_neg c).symm.trans hF))
theorem sx_icmp_gt (hx : p.tables.exec = Jvm.exec) (hb : c.code = cc) {x y : Int32} {off : Int} {tgt : Nat} {K1 K2 : Option β} (hF : (if y < x then K1 else K2) = some z) (hdg : decode cc pc = .ok (.if_icmp .gt off, 3)) (ht : (pc : Int) + off = (tgt : Int)) (kt : K1 = some z → W p l e R s m args below meth c H locs cells slots Q (F0 m tgt ls rest)) (kf : K2 = some z → W p l e R s m args below meth c H locs cells slots Q (F0 m (pc + 3) ls rest)) : W p l e R s m args below meth c H locs cells slots Q (F0 m pc ls (.int y :: .int x :: rest)) :=
  lv_icmp_gt hx hb hdg ht (fun c => kt ((if_pos c).symm.trans hF)) (fun c => kf ((if_neg c).symm.trans hF))
theorem sx_if_le (hx : p.tables.exec = Jvm.exec) (hb : c.code = cc) {x : Int32} {off : Int} {tgt : Nat} {K1 K2 : Option β} (hF : (if x ≤ 0 then K1 else K2) = some z) (hdg : decode cc pc = .ok (.ifCond .le off, 3)) (ht : (pc : Int) + off = (tgt : Int)) (kt : K1 = some z → W p l e R s m args below meth c H locs cells slots Q (F0 m tgt ls rest)) (kf : K2 = some z → W p l e R s m args below meth c H locs cells slots Q (F0 m (pc + 3) ls rest)) : W p l e R s m args below meth c H locs cells slots Q (F0 m pc ls (.int x :: rest)) :=
  lv_if_le hx hb hdg ht (fun c => kt ((if_pos c).symm.trans hF)) (fun c => kf ((if_neg c).symm.trans hF))
theorem sx_icmp_le (hx : p.tables.exec = Jvm.exec) (hb : c.code = cc) {x y : Int32} {off : Int} {tgt : Nat} {K1 K2 : Option β} (hF : (if x ≤ y then K1 else K2) = some z) (hdg : decode cc pc = .ok (.if_icmp .le off, 3)) (ht : (pc : Int) + off = (tgt : Int)) (kt : K1 = some z → W p l e R s m args below meth c H locs cells slots Q (F0 m tgt ls rest)) (kf : K2 = some z → W p l e R s m args below meth c H locs cells slots Q (F0 m (pc + 3) ls rest)) : W p l e R s m args below meth c H locs cells slots Q (F0 m pc ls (.int y :: .int x :: rest)) :=
  lv_icmp_le hx hb hdg ht (fun c => kt ((if_pos c).symm.trans hF)) (fun c => kf ((if_neg c).symm.trans hF))
theorem sx_idiv (hx : p.tables.exec = Jvm.exec) (hb : c.code = cc) {x y : Int32} {K : Option β} (hF : q_dv y K = some z) (hdg : decode cc pc = .ok (.idiv, 1)) (kk : K = some z → W p l e R s m args below meth c H locs cells slots Q (F0 m (pc + 1) ls (.int (x / y) :: rest))) : W p l e R s m args below meth c H locs cells slots Q (F0 m pc ls (.int y :: .int x :: rest)) :=
  lv_idiv hx hb hdg (q_dv_some hF).1 (kk (q_dv_some hF).2)
theorem sx_irem (hx : p.tables.exec = Jvm.exec) (hb : c.code = cc) {x y : Int32} {K : Option β} (hF : q_dv y K = some z) (hdg : decode cc pc = .ok (.irem, 1)) (kk : K = some z → W p l e R s m args below meth c H locs cells slots Q (F0 m (pc + 1) ls (.int (x - x / y * y) :: rest))) : W p l e R s m args below meth c H locs cells slots Q (F0 m pc ls (.int y :: .int x :: rest)) :=
  lv_irem hx hb hdg (q_dv_some hF).1 (kk (q_dv_some hF).2)
/-! arrays -/
theorem sx_iald (hx : p.tables.exec = Jvm.exec) (hb : c.code = cc) (hK : va_K D cl tys s) (hP : va_P D cl ws H) (q0 t0 : Nat) {cA : ClassId} {n : Nat} {f : Nat → Int32} (ha : ws[q0]? = some (a, .inl (cA, n, .inl f))) (ht : tys[t0]? = some (cA, .int)) {i : Int32} {K : Int32 → Option β} (hF : q_rd n f i K = some z) (hdg : decode cc pc = .ok (.iaload, 1)) (kk : ∀ v : Int32, K v = some z → W p l e R s m args below meth c H locs cells slots Q (F0 m (pc + 1) ls (.int v :: rest))) : W p l e R s m args below meth c H locs cells slots Q (F0 m pc ls (.int i :: .ref a :: rest)) :=
  va_iald hx hb hK hP q0 t0 ha ht (q_rd_some hF).1 hdg (kk _ (q_rd_some hF).2)
theorem sx_zald (hx : p.tables.exec = Jvm.exec) (hb : c.code = cc) (hK : va_K D cl tys s) (hP : va_P D cl ws H) (q0 t0 : Nat) {cA : ClassId} {n : Nat} {f : Nat → Int32} (ha : ws[q0]? = some (a, .inl (cA, n, .inl f))) (ht : tys[t0]? = some (cA, .boolean)) {i : Int32} {K : Int32 → Option β} (hF : q_rd n f i K = some z) (hdg : decode cc pc = .ok (.baload, 1)) (kk : ∀ v : Int32, K v = some z → W p l e R s m args below meth c H locs cells slots Q (F0 m (pc + 1) ls (.int v :: rest))) : W p l e R s m args below meth c H locs cells slots Q (F0 m pc ls (.int i :: .ref a :: rest)) :=
  va_zald hx hb hK hP q0 t0 ha ht (q_rd_some hF).1 hdg (kk _ (q_rd_some hF).2)
theorem sx_bald (hx : p.tables.exec = Jvm.exec) (hb : c.code = cc) (hK : va_K D cl tys s) (hP : va_P D cl ws H) (q0 t0 : Nat) {cA : ClassId} {n : Nat} {f : Nat → Int32} (ha : ws[q0]? = some (a, .inl (cA, n, .inl f))) (ht : tys[t0]? = some (cA, .byte)) {i : Int32} {K : Int32 → Option β} (hF : q_rd n f i K = some z) (hdg : decode cc pc = .ok (.baload, 1)) (kk : ∀ v : Int32, K v = some z → W p l e R s m args below meth c H locs cells slots Q (F0 m (pc + 1) ls (.int v :: rest))) : W p l e R s m args below meth c H locs cells slots Q (F0 m pc ls (.int i :: .ref a :: rest)) :=
  va_bald hx hb hK hP q0 t0 ha ht (q_rd_some hF).1 hdg (kk _ (q_rd_some hF).2)
theorem sx_lald (hx : p.tables.exec = Jvm.exec) (hb : c.code = cc) (hK : va_K D cl tys s) (hP : va_P D cl ws H) (q0 t0 : Nat) {cA : ClassId} {n : Nat} {f : Nat → Int64} (ha : ws[q0]? = some (a, .inl (cA, n, .inr (.inl f)))) (ht : tys[t0]? = some (cA, .long)) {i : Int32} {K : Int64 → Option β} (hF : q_rd n f i K = some z) (hdg : decode cc pc = .ok (.laload, 1)) (kk : ∀ v : Int64, K v = some z → W p l e R s m args below meth c H locs cells slots Q (F0 m (pc + 1) ls (.long v :: rest))) : W p l e R s m args below meth c H locs cells slots Q (F0 m pc ls (.int i :: .ref a :: rest)) :=
  va_lald hx hb hK hP q0 t0 ha ht (q_rd_some hF).1 hdg (kk _ (q_rd_some hF).2)
/-! ends -/
theorem sx_reti (hx : p.tables.exec = Jvm.exec) (hb : c.code = cc) (hr : meth.sig.returnType = some .int) {v r0 : Int32} (hF : (some (v, σ) : Option (Int32 × q_St)) = some (r0, σ0)) (hP : va_P D cl (Wd σ) H) (hS : va_S A s.heap H locs) (hlocks : meth.locks = false) (hdg : decode cc pc = .ok (.ireturn, 1)) : W p l e R s m args below meth c H locs 0 0 (MQ below (q_Qi D cl Wd A r0 σ0) args s 0 0 A) (F0 m pc ls [.int v]) := by
  cases hF
  exact W.iret (v := v) hx hb hr (fun t ht hW => ⟨⟨v, σ, rfl, ⟨rfl, rfl⟩, (show va_P D cl (Wd σ) t.heap by rw [ht]; exact hP)⟩, hS.F ht⟩) hS.2.2 hdg
theorem sx_retz (hx : p.tables.exec = Jvm.exec) (hb : c.code = cc) (hr : meth.sig.returnType = some .boolean) {v r0 : Int32} (hv : v = 0 ∨ v = 1) (hF : (some (v, σ) : Option (Int32 × q_St)) = some (r0, σ0)) (hP : va_P D cl (Wd σ) H) (hS : va_S A s.heap H locs) (hlocks : meth.locks = false) (hdg : decode cc pc = .ok (.ireturn, 1)) : W p l e R s m args below meth c H locs 0 0 (MQ below (q_Qi D cl Wd A r0 σ0) args s 0 0 A) (F0 m pc ls [.int v]) := by
  cases hF
  exact W.zret (v := v) (ty := .boolean) hx hb hr (by rcases hv with h | h <;> rw [h] <;> rfl) (fun t ht hW => ⟨⟨v, σ, rfl, ⟨rfl, rfl⟩, (show va_P D cl (Wd σ) t.heap by rw [ht]; exact hP)⟩, hS.F ht⟩) hS.2.2 hdg
theorem sx_retzv (hx : p.tables.exec = Jvm.exec) (hb : c.code = cc) (hr : meth.sig.returnType = some .boolean) {v r0 : Int32} (hF : q_rz v σ = some (r0, σ0)) (hP : va_P D cl (Wd σ) H) (hS : va_S A s.heap H locs) (hlocks : meth.locks = false) (hdg : decode cc pc = .ok (.ireturn, 1)) : W p l e R s m args below meth c H locs 0 0 (MQ below (q_Qi D cl Wd A r0 σ0) args s 0 0 A) (F0 m pc ls [.int v]) :=
  sx_retz hx hb hr (q_rz_some hF).1 (q_rz_some hF).2 hP hS hlocks hdg
theorem sx_retl (hx : p.tables.exec = Jvm.exec) (hb : c.code = cc) (hr : meth.sig.returnType = some .long) {v r0 : Int64} (hF : (some (v, σ) : Option (Int64 × q_St)) = some (r0, σ0)) (hP : va_P D cl (Wd σ) H) (hS : va_S A s.heap H locs) (hlocks : meth.locks = false) (hdg : decode cc pc = .ok (.lreturn, 1)) : W p l e R s m args below meth c H locs 0 0 (MQ below (q_Ql D cl Wd A r0 σ0) args s 0 0 A) (F0 m pc ls [.long v]) := by
  cases hF
  exact W.lret (v := v) hx hb hr (fun t ht hW => ⟨⟨v, σ, rfl, ⟨rfl, rfl⟩, (show va_P D cl (Wd σ) t.heap by rw [ht]; exact hP)⟩, hS.F ht⟩) hS.2.2 hdg
theorem sx_retv (hx : p.tables.exec = Jvm.exec) (hb : c.code = cc) (hr : meth.sig.returnType = none) {r0 : Unit} (hF : (some ((), σ) : Option (Unit × q_St)) = some (r0, σ0)) (hP : va_P D cl (Wd σ) H) (hS : va_S A s.heap H locs) (hlocks : meth.locks = false) (hdg : decode cc pc = .ok (.return_, 1)) : W p l e R s m args below meth c H locs 0 0 (MQ below (q_Qv D cl Wd A σ0) args s 0 0 A) (F0 m pc ls []) := by
  cases hF
  exact W.vret hx hb hr (fun t ht hW => ⟨⟨σ, rfl, rfl, (show va_P D cl (Wd σ) t.heap by rw [ht]; exact hP)⟩, hS.F ht⟩) hS.2.2 hdg
/-! calls -/
variable {y : MethodName} {bytes : ByteArray} {maxL n index q0 ci N nL : Nat} {ret : Option FieldType} {rm : Room} {own C : String} {T : u_T} {fs : List Value} {b : Nat} {As st0 : List Value} {Qc : Array Value → State → Outcome → State → Prop}
theorem q_runV (hx : p.tables.exec = Jvm.exec) (hb : c.code = cc) (hml : c.maxLocals = nL) (hown : s.vm.findClass own = some m.cls) (hts : ∀ w ∈ q_T, w.before args s = true) (hK : va_K D cl tys s) (hP : va_P D cl (Wd σ) H)
    (hM : Met l y (Cond.code y bytes maxL ret :: q_T) rm (q_P D cl tys Wd (.ref b :: As) σ) Qc 0 0 A) (cw : q_cwV own index C y bytes maxL ret n) (hrc : rm.cells = 0) (hrs : rm.slots = 0) (hR : rm.frames + 1 ≤ R.frames ∧ 8 + (maxL + 11) + rm.locals ≤ R.locals)
    (he : (Wd σ)[q0]? = some (b, .inr (ci, fs))) (hc : cl[ci]? = some (C, T, N)) (hn : As.length = n) (hls : ls.size = nL) (hst : st0 = As.reverse ++ .ref b :: rest) (hW : (rest.map fun v => v.category).sum ≤ 8) (hdg : decode cc pc = .ok (.invokevirtual index, 3)) :
    va_Run p l e R s m args below meth c H locs 0 0 0 0 (F0 m pc ls st0) rest (Qc (Value.ref b :: As).toArray) A := by
  obtain ⟨⟨w1, w2, w3, hd1, hd⟩, w4, w5⟩ := cw
  refine va_runV (ws := Cond.code y bytes maxL ret :: q_T) (rm := rm) (bytes := bytes) (maxL := maxL) (ret := ret) (C := C) (n := n) (index := index) (As := As) (b := b) ⟨hx, hb, hml, hown, hts⟩ hM ⟨callB_of n hts (q_good w1) rfl hrc hrs (by rw [hd1]; exact hts _ w3) (hts _ w2) hd hR, hts _ w4, hts _ w5⟩ ⟨q_blind, va_recv hK hP hc he, fun U hU hW => ⟨rfl, by rw [hU]; exact hP, va_K.moved hW.alike hK⟩⟩ rfl hn hls hst (lv_room hW) hdg ⟨Nat.zero_le _, Nat.zero_le _⟩
theorem q_runS (hx : p.tables.exec = Jvm.exec) (hb : c.code = cc) (hml : c.maxLocals = nL) (hown : s.vm.findClass own = some m.cls) (hts : ∀ w ∈ q_T, w.before args s = true) (hK : va_K D cl tys s) (hP : va_P D cl (Wd σ) H)
    (hM : Met l y (Cond.code y bytes maxL ret :: q_T) rm (q_P D cl tys Wd As σ) Qc 0 0 A) (cw : q_cwS own index C y bytes maxL ret n) (hrc : rm.cells = 0) (hrs : rm.slots = 0) (hR : rm.frames + 1 ≤ R.frames ∧ 8 + (maxL + 11) + rm.locals ≤ R.locals)
    (hn : As.length = n) (hls : ls.size = nL) (hst : st0 = As.reverse ++ rest) (hW : (rest.map fun v => v.category).sum ≤ 8) (hdg : decode cc pc = .ok (.invokestatic index, 3)) :
    va_Run p l e R s m args below meth c H locs 0 0 0 0 (F0 m pc ls st0) rest (Qc As.toArray) A := by
  obtain ⟨⟨w1, w2, w3, hd1, hd⟩, w4⟩ := cw
  refine va_runS (ws := Cond.code y bytes maxL ret :: q_T) (rm := rm) (bytes := bytes) (maxL := maxL) (ret := ret) (n := n) (index := index) (As := As) ⟨hx, hb, hml, hown, hts⟩ hM ⟨callB_of n hts (q_good w1) rfl hrc hrs (by rw [hd1]; exact hts _ w3) (hts _ w2) hd hR, hts _ w4⟩ ⟨q_blind, fun U hU hW => ⟨rfl, by rw [hU]; exact hP, va_K.moved hW.alike hK⟩⟩ rfl hn hls hst (lv_room hW) hdg ⟨Nat.zero_le _, Nat.zero_le _⟩
theorem sx_ci {r1 : Int32} {a : Array Value} (hr : va_Run p l e R s m args below meth c H locs 0 0 0 0 (F0 m pc ls st0) rest (q_Qi D cl Wd A r1 σ1 a) A) (hS : va_S A s.heap H locs)
    (kk : ∀ (H : Heap) (locs : List Loc), va_P D cl (Wd σ1) H → va_S A s.heap H locs → W p l e R s m args below meth c H locs 0 0 Q (F0 m (pc + 3) ls (.int r1 :: rest))) : W p l e R s m args below meth c H locs 0 0 Q (F0 m pc ls st0) :=
  va_calli hr hS (fun _ _ h => h) (fun _ h => h) (fun r u t H1 locs1 ht hvm hw hB hz hk hS1 => by
    obtain ⟨rfl, rfl⟩ := hw
    exact kk H1 locs1 (by rw [← ht]; exact hB) hS1)
theorem sx_cl {r1 : Int64} {a : Array Value} (hr : va_Run p l e R s m args below meth c H locs 0 0 0 0 (F0 m pc ls st0) rest (q_Ql D cl Wd A r1 σ1 a) A) (hS : va_S A s.heap H locs)
    (kk : ∀ (H : Heap) (locs : List Loc), va_P D cl (Wd σ1) H → va_S A s.heap H locs → W p l e R s m args below meth c H locs 0 0 Q (F0 m (pc + 3) ls (.long r1 :: rest))) : W p l e R s m args below meth c H locs 0 0 Q (F0 m pc ls st0) :=
  va_calll hr hS (fun _ _ h => h) (fun _ h => h) (fun r u t H1 locs1 ht hvm hw hB hz hk hS1 => by
    obtain ⟨rfl, rfl⟩ := hw
    exact kk H1 locs1 (by rw [← ht]; exact hB) hS1)
theorem sx_cv {a : Array Value} (hr : va_Run p l e R s m args below meth c H locs 0 0 0 0 (F0 m pc ls st0) rest (q_Qv D cl Wd A σ1 a) A) (hS : va_S A s.heap H locs)
    (kk : ∀ (H : Heap) (locs : List Loc), va_P D cl (Wd σ1) H → va_S A s.heap H locs → W p l e R s m args below meth c H locs 0 0 Q (F0 m (pc + 3) ls rest)) : W p l e R s m args below meth c H locs 0 0 Q (F0 m pc ls st0) :=
  va_callv hr hS (fun _ _ h => h) (fun _ h => h) (fun u t H1 locs1 ht hvm hw hB hz hk hS1 => by
    obtain rfl := hw
    exact kk H1 locs1 (by rw [← ht]; exact hB) hS1)
/-! the small functions of Math -/
theorem sx_max (hx : p.tables.exec = Jvm.exec) (hb : c.code = cc) (hml : c.maxLocals = ls.size) (hown : s.vm.findClass own = some m.cls) (hts : ∀ w ∈ q_T, w.before args s = true) (hlink : Cond.methodLink own index Lib.Math.max.name ∈ q_T) (hstat : Cond.static Lib.Math.max.name ∈ q_T) (hini : Cond.initialized "java/lang/Math" ∈ q_T) (hcode : Cond.code Lib.Math.max.name Lib.Math.max.code 2 (some .int) ∈ q_T)
    (hframes : 1 ≤ R.frames) (hlocals : (rest.map fun v => v.category).sum + 13 ≤ R.locals) {x y : Int32} (hdg : decode cc pc = .ok (.invokestatic index, 3))
    (kk : W p l e R s m args below meth c H locs 0 0 Q (F0 m (pc + 3) ls (.int (q_max x y) :: rest))) : W p l e R s m args below meth c H locs 0 0 Q (F0 m pc ls (.int y :: .int x :: rest)) :=
  va_mmax hx hb hml hown (hts _ hlink) (hts _ hstat) (hts _ hini) (hts _ hcode) hframes hlocals (Nat.zero_le _) (Nat.zero_le _) hdg kk
theorem sx_min (hx : p.tables.exec = Jvm.exec) (hb : c.code = cc) (hml : c.maxLocals = ls.size) (hown : s.vm.findClass own = some m.cls) (hts : ∀ w ∈ q_T, w.before args s = true) (hlink : Cond.methodLink own index Lib.Math.min.name ∈ q_T) (hstat : Cond.static Lib.Math.min.name ∈ q_T) (hini : Cond.initialized "java/lang/Math" ∈ q_T) (hcode : Cond.code Lib.Math.min.name Lib.Math.min.code 2 (some .int) ∈ q_T)
    (hframes : 1 ≤ R.frames) (hlocals : (rest.map fun v => v.category).sum + 13 ≤ R.locals) {x y : Int32} (hdg : decode cc pc = .ok (.invokestatic index, 3))
    (kk : W p l e R s m args below meth c H locs 0 0 Q (F0 m (pc + 3) ls (.int (q_min x y) :: rest))) : W p l e R s m args below meth c H locs 0 0 Q (F0 m pc ls (.int y :: .int x :: rest)) :=
  va_mmin hx hb hml hown (hts _ hlink) (hts _ hstat) (hts _ hini) (hts _ hcode) hframes hlocals (Nat.zero_le _) (Nat.zero_le _) hdg kk
/-! switches -/
theorem sx_tabIn (hx : p.tables.exec = Jvm.exec) (hb : c.code = cc) {dflt lo hi : Int} {offs : Array Int} {len : Nat} {x : Int32} (v : Int32) (hxv : x = v) {off : Int} {tgt : Nat} (hdg : decode cc pc = .ok (.tableswitch dflt lo hi offs, len)) (h1 : ¬ v.toInt < lo) (h2 : ¬ hi < v.toInt) (ho : offs[(v.toInt - lo).toNat]? = some off) (ht : (pc : Int) + off = (tgt : Int)) (kk : W p l e R s m args below meth c H locs cells slots Q (F0 m tgt ls rest)) : W p l e R s m args below meth c H locs cells slots Q (F0 m pc ls (.int x :: rest)) := by
  subst hxv
  exact lv_tableIn hx hb hdg h1 h2 ho ht kk
end QSX
