theorem q_mem1 {w : va_W} {a : Nat → Nat} {n : Nat} (hw : w.map (fun x => x.1) = (List.range n).map a) {k : Nat} {q : Nat × va_E} (h : w[k]? = some q) : k < n ∧ q.1 = a k := by
  have h1 : (w.map (fun x => x.1))[k]? = some q.1 := by rw [List.getElem?_map, h]; rfl
  rw [hw, List.getElem?_map] at h1
  by_cases hk : k < n
  · rw [List.getElem?_range hk] at h1
    exact ⟨hk, (Option.some.inj h1).symm⟩
  · rw [List.getElem?_eq_none (by simpa using Nat.not_lt.mp hk)] at h1
    cases h1
theorem q_mem2 {w : va_W} {a : Nat → Nat} {n : Nat} (hw : w.map (fun x => x.1) = (List.range n).map a) {k : Nat} (h : k < n) : ∃ e, w[k]? = some (a k, e) := by
  have h1 : (w.map (fun x => x.1))[k]? = some (a k) := by rw [hw, List.getElem?_map, List.getElem?_range h]; rfl
  rw [List.getElem?_map] at h1
  cases hq : w[k]? with
  | none => rw [hq] at h1; cases h1
  | some q =>
    rw [hq] at h1
    have e : q.1 = a k := Option.some.inj h1
    exact ⟨q.2, by rw [← e]⟩
theorem q_mem3 {w w' : va_W} (e : w.map (fun x => x.1) = w'.map (fun x => x.1)) {k : Nat} {q : Nat × va_E} (h : w'[k]? = some q) : ∃ e, w[k]? = some (q.1, e) := by
  have h1 : (w'.map (fun x => x.1))[k]? = some q.1 := by rw [List.getElem?_map, h]; rfl
  rw [← e, List.getElem?_map] at h1
  cases hq : w[k]? with
  | none => rw [hq] at h1; cases h1
  | some q2 =>
    rw [hq] at h1
    have e : q2.1 = q.1 := Option.some.inj h1
    exact ⟨q2.2, by rw [← e]⟩
theorem q_Dmap {A : Nat → Prop} {w w' : va_W} (h : va_D A w) (e : w.map (fun x => x.1) = w'.map (fun x => x.1)) : va_D A w' := by
  refine ⟨fun i j p q hi hj hpq => ?_, fun k q hk => ?_⟩
  · obtain ⟨e1, h1⟩ := q_mem3 e hi
    obtain ⟨e2, h2⟩ := q_mem3 e hj
    exact h.1 i j _ _ h1 h2 hpq
  · obtain ⟨e1, h1⟩ := q_mem3 e hk
    exact h.2 k (q.1, e1) h1
theorem q_Dself {A : Nat → Prop} {w w' : va_W} {a : Nat → Nat} {n : Nat} (h : va_D A w) (hw : w.map (fun x => x.1) = (List.range n).map a) (hw' : w'.map (fun x => x.1) = (List.range n).map a) : va_D (fun q => ∃ k : Nat, k < n ∧ q = a k) w' :=
  (q_Dmap h (hw.trans hw'.symm)).weaken (fun k q hk _ => ⟨k, q_mem1 hw' hk⟩)
theorem q_Ain {A : Nat → Prop} {w : va_W} {a : Nat → Nat} {n : Nat} (h : va_D A w) (hw : w.map (fun x => x.1) = (List.range n).map a) : ∀ q, (∃ k : Nat, k < n ∧ q = a k) → A q := fun q ⟨k, hk, e⟩ => by
  obtain ⟨e1, h1⟩ := q_mem2 hw hk
  rw [e]
  exact h.2 k _ h1
theorem q_AinA {w : va_W} {a : Nat → Nat} {n sz : Nat} (hw : w.map (fun x => x.1) = (List.range n).map a) : ∀ q, (∃ k : Nat, k < n ∧ q = a k) → va_A w sz q := fun q ⟨k, hk, e⟩ => by
  obtain ⟨e1, h1⟩ := q_mem2 hw hk
  rw [e]
  exact Or.inl ⟨k, e1, h1⟩
theorem q_D1 {A : Nat → Prop} {w w1 : va_W} {sz : Nat} (h : va_D A w) (e : w.map (fun x => x.1) = w1.map (fun x => x.1)) : va_D (va_A w sz) w1 :=
  (q_Dmap h e).weaken (fun k q hk _ => by
    obtain ⟨e1, h1⟩ := q_mem3 e hk
    exact Or.inl ⟨k, e1, h1⟩)
def q_z : q_St := (fun _ => 0, fun _ _ => 0, fun _ _ => 0)
/-- a new Disk, as format finds it -/
def fst_q (B T S C : Nat) : q_St := (fun k => [nI B, nI T, nI S, nI (8 * T), nI (B * (8 * T)), nI C, 1, -1, 0, 0, 0, 0, 0].getD k 0, fun _ _ => 0, fun _ _ => 0)
set_option maxHeartbeats 4000000 in
set_option maxRecDepth 100000 in
theorem ki_X2 (l : Launch) (D : va_G) (h0 sz : Nat) (x1 : Int32) (x2 : Int32) (x3 : Int32) (x4 : Int32) (B : Nat) (T : Nat) (S : Nat) (C : Nat) (hh0 : B * (8 * T) ≤ 2048) (hh1 : T ≤ 32) (hh2 : C ≤ 256) (hB : q_max 4 (q_min 8 x1) = nI B) (hT : q_max 8 (q_min 32 x2) = nI T) (hSh : q_max 1 (q_min 4 x3) = nI S) (hC : q_max 64 (q_min 256 x4) = nI C) : Met l yX2_init (Cond.code yX2_init cX2_init 5 none :: q_T) ({ frames := 1, cells := 2, slots := 22784, locals := 17 } : Room) (va_Pc [.ref h0, .int x1, .int x2, .int x3, .int x4] (fun U => U.heap.size = sz ∧ va_P D vwCl [(h0, .inr (2, [.int 0, .int 0, .int 0, .int 0, .int 0, .int 0, .null, .null, .int 0, .int 0, .int 0, .int 0, .int 0, .int 0, .int 0]))] U.heap ∧ va_K D vwCl [] U ∧ va_D (fun _ => True) [(h0, .inr (2, [.int 0, .int 0, .int 0, .int 0, .int 0, .int 0, .null, .null, .int 0, .int 0, .int 0, .int 0, .int 0, .int 0, .int 0]))])) (va_Qv (fun _ : Unit => True) (fun _ t => ∃ (q1 : Nat) (q3 : Nat) (c2 : ClassId) (c4 : ClassId), va_P D vwCl [(h0, .inr (2, [.int (nI B), .int (nI T), .int (nI S), .int (nI (8 * T)), .int (nI (B * (8 * T))), .int (nI C), .ref q1, .ref q3, .int 1, .int (-1), .int 0, .int 0, .int 0, .int 0, .int 0])), (q1, .inl (c2, ((((B * (8 * T)) + (8 * T)) + C) * 8), .inr (.inl (fun _ => 0)))), (q3, .inl (c4, ((B * (8 * T)) + (8 * T)), .inl (fun _ => 0)))] t.heap ∧ va_K D vwCl [(c2, .long), (c4, .boolean)] t ∧ va_D (va_A [(h0, .inr (2, [.int 0, .int 0, .int 0, .int 0, .int 0, .int 0, .null, .null, .int 0, .int 0, .int 0, .int 0, .int 0, .int 0, .int 0]))] sz) [(h0, .inr (2, [.int (nI B), .int (nI T), .int (nI S), .int (nI (8 * T)), .int (nI (B * (8 * T))), .int (nI C), .ref q1, .ref q3, .int 1, .int (-1), .int 0, .int 0, .int 0, .int 0, .int 0])), (q1, .inl (c2, ((((B * (8 * T)) + (8 * T)) + C) * 8), .inr (.inl (fun _ => 0)))), (q3, .inl (c4, ((B * (8 * T)) + (8 * T)), .inl (fun _ => 0)))]) (va_A [(h0, .inr (2, [.int 0, .int 0, .int 0, .int 0, .int 0, .int 0, .null, .null, .int 0, .int 0, .int 0, .int 0, .int 0, .int 0, .int 0]))] sz)) 2 22784 (va_A [(h0, .inr (2, [.int 0, .int 0, .int 0, .int 0, .int 0, .int 0, .null, .null, .int 0, .int 0, .int 0, .int 0, .int 0, .int 0, .int 0]))] sz) := by
  refine Met.ofW (cc := cX2_init) (maxL := 5) (ret := none) (by decide) rfl ?_
  intro p e s m args below meth c s₁ Bd hml hv
  obtain ⟨rfl, hsz, hP, hK, hD0⟩ := hv
  have hx := Bd.exec
  have hb := Bd.bytes
  have hr := Bd.returns
  have hts := q_ts (atoms_spec (ws := Cond.code yX2_init cX2_init 5 none :: q_T) Bd.pre)
  have hown : s.vm.findClass RX2 = some m.cls := findClass_of_methodNamed Bd.named
  have hlocks := Bd.notSynchronized
  have hin : meth.name = "<init>" := (name_of_methodNamed Bd.named Bd.method).1
  subst hsz
  have hD := hD0.self (sz := s.heap.size)
  generalize hAe : va_A [(h0, .inr (2, [.int 0, .int 0, .int 0, .int 0, .int 0, .int 0, .null, .null, .int 0, .int 0, .int 0, .int 0, .int 0, .int 0, .int 0]))] s.heap.size = A at hD ⊢
  have hA : ∀ q : Nat, s.heap.size ≤ q → A q := fun q h => by rw [← hAe]; exact Or.inr h
  have hS : va_S A s.heap s.heap [] := va_S.rf
  have hl := lv_entry ([.ref h0, .int x1, .int x2, .int x3, .int x4]) (n := 5) (Nat.le_of_ble_eq_true rfl)
  rw [lg_entry_eq]
  generalize (lg_sl ([.ref h0, .int x1, .int x2, .int x3, .int x4]) ++ List.replicate (5 - (lg_sl ([.ref h0, .int x1, .int x2, .int x3, .int x4])).length) Slot.unset).toArray = ls at hl ⊢
  have hl : lv_has ls 5 [(0, .ref h0), (1, .int x1), (2, .int x2), (3, .int x3), (4, .int x4)] := hl
  refine lv_aload_n hx hb dX2_init_0 rfl (lv_at hl 0 rfl) ?_
  refine W.objInit hx hb hown (hts _ ol_X2_3) (hts _ oi_i) (hts _ oi_c) rfl (by rw [hml]; exact hl.1) rfl dX2_init_1 (Nat.le_of_ble_eq_true rfl) (Nat.le_of_ble_eq_true rfl) ?_
  refine W.eq (g2 := F0 m 4 ls []) rfl ?_
  refine lv_aload_n hx hb dX2_init_4 rfl (lv_at hl 0 rfl) ?_
  refine lv_iconst (v := 4) hx hb dX2_init_5 (by decide) ?_
  refine lv_bipush (v := 8) hx hb dX2_init_6 (by decide) ?_
  refine lv_iload_n hx hb dX2_init_8 rfl (lv_at hl 1 rfl) ?_
  refine sx_min hx hb (hml.trans hl.1.symm) hown hts lw_X2_9 lb_min_s lb_math lb_min_c (Nat.le_of_ble_eq_true rfl) (Nat.le_of_ble_eq_true rfl) dX2_init_9 ?_
  refine sx_max hx hb (hml.trans hl.1.symm) hown hts lw_X2_15 lb_max_s lb_math lb_max_c (Nat.le_of_ble_eq_true rfl) (Nat.le_of_ble_eq_true rfl) dX2_init_12 ?_
  rw [hB]
  refine va_putF (D := D) (ci := 2) (v := .int (nI B)) (ty := .int) (C := RX2) (T := TX2) (N := 15) hx hb hts inT_X2 tyX2 tyX2_ok nmX2 hown hK hP hD hS 0 rfl rfl 0 (by decide) (hts _ fl_X2_18) (fun _ h9 => h9) rfl hin rfl (by decide +kernel) rfl rfl (Nat.le_of_ble_eq_true rfl) dX2_init_15 (fun H locs hP hD hS => ?_)
  have hP : va_P D vwCl [(h0, .inr (2, [.int (nI B), .int 0, .int 0, .int 0, .int 0, .int 0, .null, .null, .int 0, .int 0, .int 0, .int 0, .int 0, .int 0, .int 0]))] H := hP
  have hD : va_D A [(h0, .inr (2, [.int (nI B), .int 0, .int 0, .int 0, .int 0, .int 0, .null, .null, .int 0, .int 0, .int 0, .int 0, .int 0, .int 0, .int 0]))] := hD
  refine lv_aload_n hx hb dX2_init_18 rfl (lv_at hl 0 rfl) ?_
  refine lv_bipush (v := 8) hx hb dX2_init_19 (by decide) ?_
  refine lv_bipush (v := 32) hx hb dX2_init_21 (by decide) ?_
  refine lv_iload_n hx hb dX2_init_23 rfl (lv_at hl 2 rfl) ?_
  refine sx_min hx hb (hml.trans hl.1.symm) hown hts lw_X2_9 lb_min_s lb_math lb_min_c (Nat.le_of_ble_eq_true rfl) (Nat.le_of_ble_eq_true rfl) dX2_init_24 ?_
  refine sx_max hx hb (hml.trans hl.1.symm) hown hts lw_X2_15 lb_max_s lb_math lb_max_c (Nat.le_of_ble_eq_true rfl) (Nat.le_of_ble_eq_true rfl) dX2_init_27 ?_
  rw [hT]
  refine va_putF (D := D) (ci := 2) (v := .int (nI T)) (ty := .int) (C := RX2) (T := TX2) (N := 15) hx hb hts inT_X2 tyX2 tyX2_ok nmX2 hown hK hP hD hS 0 rfl rfl 1 (by decide) (hts _ fl_X2_24) (fun _ h9 => h9) rfl hin rfl (by decide +kernel) rfl rfl (Nat.le_of_ble_eq_true rfl) dX2_init_30 (fun H locs hP hD hS => ?_)
  have hP : va_P D vwCl [(h0, .inr (2, [.int (nI B), .int (nI T), .int 0, .int 0, .int 0, .int 0, .null, .null, .int 0, .int 0, .int 0, .int 0, .int 0, .int 0, .int 0]))] H := hP
  have hD : va_D A [(h0, .inr (2, [.int (nI B), .int (nI T), .int 0, .int 0, .int 0, .int 0, .null, .null, .int 0, .int 0, .int 0, .int 0, .int 0, .int 0, .int 0]))] := hD
  refine lv_aload_n hx hb dX2_init_33 rfl (lv_at hl 0 rfl) ?_
  refine lv_iconst (v := 1) hx hb dX2_init_34 (by decide) ?_
  refine lv_iconst (v := 4) hx hb dX2_init_35 (by decide) ?_
  refine lv_iload_n hx hb dX2_init_36 rfl (lv_at hl 3 rfl) ?_
  refine sx_min hx hb (hml.trans hl.1.symm) hown hts lw_X2_9 lb_min_s lb_math lb_min_c (Nat.le_of_ble_eq_true rfl) (Nat.le_of_ble_eq_true rfl) dX2_init_37 ?_
  refine sx_max hx hb (hml.trans hl.1.symm) hown hts lw_X2_15 lb_max_s lb_math lb_max_c (Nat.le_of_ble_eq_true rfl) (Nat.le_of_ble_eq_true rfl) dX2_init_40 ?_
  rw [hSh]
  refine va_putF (D := D) (ci := 2) (v := .int (nI S)) (ty := .int) (C := RX2) (T := TX2) (N := 15) hx hb hts inT_X2 tyX2 tyX2_ok nmX2 hown hK hP hD hS 0 rfl rfl 2 (by decide) (hts _ fl_X2_27) (fun _ h9 => h9) rfl hin rfl (by decide +kernel) rfl rfl (Nat.le_of_ble_eq_true rfl) dX2_init_43 (fun H locs hP hD hS => ?_)
  have hP : va_P D vwCl [(h0, .inr (2, [.int (nI B), .int (nI T), .int (nI S), .int 0, .int 0, .int 0, .null, .null, .int 0, .int 0, .int 0, .int 0, .int 0, .int 0, .int 0]))] H := hP
  have hD : va_D A [(h0, .inr (2, [.int (nI B), .int (nI T), .int (nI S), .int 0, .int 0, .int 0, .null, .null, .int 0, .int 0, .int 0, .int 0, .int 0, .int 0, .int 0]))] := hD
  refine lv_aload_n hx hb dX2_init_46 rfl (lv_at hl 0 rfl) ?_
  refine lv_bipush (v := 8) hx hb dX2_init_47 (by decide) ?_
  refine lv_aload_n hx hb dX2_init_49 rfl (lv_at hl 0 rfl) ?_
  refine va_get (D := D) (ci := 2) (v := .int (nI T)) (C := RX2) (T := TX2) (N := 15) hx hb hts inT_X2 hown hK hP 0 rfl rfl 1 (by decide) (hts _ fl_X2_24) (fun _ h9 => h9) rfl dX2_init_50 ?_
  refine lv_imul hx hb dX2_init_53 ?_
  rw [show (8 : Int32) * nI T = nI (8 * T) from pk_mul 8 T]
  refine va_putF (D := D) (ci := 2) (v := .int (nI (8 * T))) (ty := .int) (C := RX2) (T := TX2) (N := 15) hx hb hts inT_X2 tyX2 tyX2_ok nmX2 hown hK hP hD hS 0 rfl rfl 3 (by decide) (hts _ fl_X2_30) (fun _ h9 => h9) rfl hin rfl (by decide +kernel) rfl rfl (Nat.le_of_ble_eq_true rfl) dX2_init_54 (fun H locs hP hD hS => ?_)
  have hP : va_P D vwCl [(h0, .inr (2, [.int (nI B), .int (nI T), .int (nI S), .int (nI (8 * T)), .int 0, .int 0, .null, .null, .int 0, .int 0, .int 0, .int 0, .int 0, .int 0, .int 0]))] H := hP
  have hD : va_D A [(h0, .inr (2, [.int (nI B), .int (nI T), .int (nI S), .int (nI (8 * T)), .int 0, .int 0, .null, .null, .int 0, .int 0, .int 0, .int 0, .int 0, .int 0, .int 0]))] := hD
  refine lv_aload_n hx hb dX2_init_57 rfl (lv_at hl 0 rfl) ?_
  refine lv_aload_n hx hb dX2_init_58 rfl (lv_at hl 0 rfl) ?_
  refine va_get (D := D) (ci := 2) (v := .int (nI B)) (C := RX2) (T := TX2) (N := 15) hx hb hts inT_X2 hown hK hP 0 rfl rfl 0 (by decide) (hts _ fl_X2_18) (fun _ h9 => h9) rfl dX2_init_59 ?_
  refine lv_aload_n hx hb dX2_init_62 rfl (lv_at hl 0 rfl) ?_
  refine va_get (D := D) (ci := 2) (v := .int (nI (8 * T))) (C := RX2) (T := TX2) (N := 15) hx hb hts inT_X2 hown hK hP 0 rfl rfl 3 (by decide) (hts _ fl_X2_30) (fun _ h9 => h9) rfl dX2_init_63 ?_
  refine lv_imul hx hb dX2_init_66 ?_
  rw [show nI B * nI (8 * T) = nI (B * (8 * T)) from pk_mul B (8 * T)]
  refine va_putF (D := D) (ci := 2) (v := .int (nI (B * (8 * T)))) (ty := .int) (C := RX2) (T := TX2) (N := 15) hx hb hts inT_X2 tyX2 tyX2_ok nmX2 hown hK hP hD hS 0 rfl rfl 4 (by decide) (hts _ fl_X2_33) (fun _ h9 => h9) rfl hin rfl (by decide +kernel) rfl rfl (Nat.le_of_ble_eq_true rfl) dX2_init_67 (fun H locs hP hD hS => ?_)
  have hP : va_P D vwCl [(h0, .inr (2, [.int (nI B), .int (nI T), .int (nI S), .int (nI (8 * T)), .int (nI (B * (8 * T))), .int 0, .null, .null, .int 0, .int 0, .int 0, .int 0, .int 0, .int 0, .int 0]))] H := hP
  have hD : va_D A [(h0, .inr (2, [.int (nI B), .int (nI T), .int (nI S), .int (nI (8 * T)), .int (nI (B * (8 * T))), .int 0, .null, .null, .int 0, .int 0, .int 0, .int 0, .int 0, .int 0, .int 0]))] := hD
  refine lv_aload_n hx hb dX2_init_70 rfl (lv_at hl 0 rfl) ?_
  refine lv_bipush (v := 64) hx hb dX2_init_71 (by decide) ?_
  refine lv_sipush (v := 256) hx hb dX2_init_73 (by decide) ?_
  refine lv_iload hx hb dX2_init_76 (lv_at hl 4 rfl) ?_
  refine sx_min hx hb (hml.trans hl.1.symm) hown hts lw_X2_9 lb_min_s lb_math lb_min_c (Nat.le_of_ble_eq_true rfl) (Nat.le_of_ble_eq_true rfl) dX2_init_78 ?_
  refine sx_max hx hb (hml.trans hl.1.symm) hown hts lw_X2_15 lb_max_s lb_math lb_max_c (Nat.le_of_ble_eq_true rfl) (Nat.le_of_ble_eq_true rfl) dX2_init_81 ?_
  rw [hC]
  refine va_putF (D := D) (ci := 2) (v := .int (nI C)) (ty := .int) (C := RX2) (T := TX2) (N := 15) hx hb hts inT_X2 tyX2 tyX2_ok nmX2 hown hK hP hD hS 0 rfl rfl 5 (by decide) (hts _ fl_X2_36) (fun _ h9 => h9) rfl hin rfl (by decide +kernel) rfl rfl (Nat.le_of_ble_eq_true rfl) dX2_init_84 (fun H locs hP hD hS => ?_)
  have hP : va_P D vwCl [(h0, .inr (2, [.int (nI B), .int (nI T), .int (nI S), .int (nI (8 * T)), .int (nI (B * (8 * T))), .int (nI C), .null, .null, .int 0, .int 0, .int 0, .int 0, .int 0, .int 0, .int 0]))] H := hP
  have hD : va_D A [(h0, .inr (2, [.int (nI B), .int (nI T), .int (nI S), .int (nI (8 * T)), .int (nI (B * (8 * T))), .int (nI C), .null, .null, .int 0, .int 0, .int 0, .int 0, .int 0, .int 0, .int 0]))] := hD
  refine lv_aload_n hx hb dX2_init_87 rfl (lv_at hl 0 rfl) ?_
  refine lv_aload_n hx hb dX2_init_88 rfl (lv_at hl 0 rfl) ?_
  refine va_get (D := D) (ci := 2) (v := .int (nI (B * (8 * T)))) (C := RX2) (T := TX2) (N := 15) hx hb hts inT_X2 hown hK hP 0 rfl rfl 4 (by decide) (hts _ fl_X2_33) (fun _ h9 => h9) rfl dX2_init_89 ?_
  refine lv_aload_n hx hb dX2_init_92 rfl (lv_at hl 0 rfl) ?_
  refine va_get (D := D) (ci := 2) (v := .int (nI (8 * T))) (C := RX2) (T := TX2) (N := 15) hx hb hts inT_X2 hown hK hP 0 rfl rfl 3 (by decide) (hts _ fl_X2_30) (fun _ h9 => h9) rfl dX2_init_93 ?_
  refine lv_iadd hx hb dX2_init_96 ?_
  rw [show nI (B * (8 * T)) + nI (8 * T) = nI ((B * (8 * T)) + (8 * T)) from nI_add (B * (8 * T)) (8 * T)]
  refine lv_aload_n hx hb dX2_init_97 rfl (lv_at hl 0 rfl) ?_
  refine va_get (D := D) (ci := 2) (v := .int (nI C)) (C := RX2) (T := TX2) (N := 15) hx hb hts inT_X2 hown hK hP 0 rfl rfl 5 (by decide) (hts _ fl_X2_36) (fun _ h9 => h9) rfl dX2_init_98 ?_
  refine lv_iadd hx hb dX2_init_101 ?_
  rw [show nI ((B * (8 * T)) + (8 * T)) + nI C = nI (((B * (8 * T)) + (8 * T)) + C) from nI_add ((B * (8 * T)) + (8 * T)) C]
  refine lv_bipush (v := 8) hx hb dX2_init_102 (by decide) ?_
  refine lv_imul hx hb dX2_init_104 ?_
  rw [show nI (((B * (8 * T)) + (8 * T)) + C) * (8 : Int32) = nI ((((B * (8 * T)) + (8 * T)) + C) * 8) from pk_mul (((B * (8 * T)) + (8 * T)) + C) 8]
  have hbd0 : (((B * (8 * T)) + (8 * T)) + C) * 8 ≤ 20480 := by omega
  refine va_newa (atype := .long) (ty := .long) (N' := (((B * (8 * T)) + (8 * T)) + C) * 8) (a0 := ((((B * (8 * T)) + (8 * T)) + C) * 8, .inr (.inl (fun _ => 0)))) hx hb (hts _ ac_long) rfl hK hP hD hS hA (fun _ => rfl) (nI_pos (n := (((B * (8 * T)) + (8 * T)) + C) * 8) (Nat.lt_of_le_of_lt hbd0 (by decide))) (nI_clamp (n := (((B * (8 * T)) + (8 * T)) + C) * 8) (Nat.lt_of_le_of_lt hbd0 (by decide))) (Nat.le_trans (Nat.mul_le_mul_right _ hbd0) (by decide)) (Nat.le_of_ble_eq_true rfl) (Nat.le_trans (Nat.add_le_add_left hbd0 _) (Nat.le_of_ble_eq_true rfl)) dX2_init_105 (fun q1 c2 H hK hP hD hS => ?_)
  have hP : va_P D vwCl [(h0, .inr (2, [.int (nI B), .int (nI T), .int (nI S), .int (nI (8 * T)), .int (nI (B * (8 * T))), .int (nI C), .null, .null, .int 0, .int 0, .int 0, .int 0, .int 0, .int 0, .int 0])), (q1, .inl (c2, ((((B * (8 * T)) + (8 * T)) + C) * 8), .inr (.inl (fun _ => 0))))] H := hP
  have hD : va_D A [(h0, .inr (2, [.int (nI B), .int (nI T), .int (nI S), .int (nI (8 * T)), .int (nI (B * (8 * T))), .int (nI C), .null, .null, .int 0, .int 0, .int 0, .int 0, .int 0, .int 0, .int 0])), (q1, .inl (c2, ((((B * (8 * T)) + (8 * T)) + C) * 8), .inr (.inl (fun _ => 0))))] := hD
  have hK : va_K D vwCl [(c2, .long)] s := hK
  refine W.widen (k := 1) (n := 20480) (by omega) (by omega) ?_
  refine va_putF (D := D) (ci := 2) (v := .ref q1) (ty := .array .long) (C := RX2) (T := TX2) (N := 15) hx hb hts inT_X2 tyX2 tyX2_ok nmX2 hown hK hP hD hS 0 rfl rfl 6 (by decide) (hts _ fl_X2_39) (fun _ h9 => h9) rfl hin rfl (by decide +kernel) rfl rfl (Nat.le_of_ble_eq_true rfl) dX2_init_107 (fun H locs hP hD hS => ?_)
  have hP : va_P D vwCl [(h0, .inr (2, [.int (nI B), .int (nI T), .int (nI S), .int (nI (8 * T)), .int (nI (B * (8 * T))), .int (nI C), .ref q1, .null, .int 0, .int 0, .int 0, .int 0, .int 0, .int 0, .int 0])), (q1, .inl (c2, ((((B * (8 * T)) + (8 * T)) + C) * 8), .inr (.inl (fun _ => 0))))] H := hP
  have hD : va_D A [(h0, .inr (2, [.int (nI B), .int (nI T), .int (nI S), .int (nI (8 * T)), .int (nI (B * (8 * T))), .int (nI C), .ref q1, .null, .int 0, .int 0, .int 0, .int 0, .int 0, .int 0, .int 0])), (q1, .inl (c2, ((((B * (8 * T)) + (8 * T)) + C) * 8), .inr (.inl (fun _ => 0))))] := hD
  refine lv_aload_n hx hb dX2_init_110 rfl (lv_at hl 0 rfl) ?_
  refine lv_aload_n hx hb dX2_init_111 rfl (lv_at hl 0 rfl) ?_
  refine va_get (D := D) (ci := 2) (v := .int (nI (B * (8 * T)))) (C := RX2) (T := TX2) (N := 15) hx hb hts inT_X2 hown hK hP 0 rfl rfl 4 (by decide) (hts _ fl_X2_33) (fun _ h9 => h9) rfl dX2_init_112 ?_
  refine lv_aload_n hx hb dX2_init_115 rfl (lv_at hl 0 rfl) ?_
  refine va_get (D := D) (ci := 2) (v := .int (nI (8 * T))) (C := RX2) (T := TX2) (N := 15) hx hb hts inT_X2 hown hK hP 0 rfl rfl 3 (by decide) (hts _ fl_X2_30) (fun _ h9 => h9) rfl dX2_init_116 ?_
  refine lv_iadd hx hb dX2_init_119 ?_
  rw [show nI (B * (8 * T)) + nI (8 * T) = nI ((B * (8 * T)) + (8 * T)) from nI_add (B * (8 * T)) (8 * T)]
  have hbd1 : (B * (8 * T)) + (8 * T) ≤ 2304 := by omega
  refine va_newa (atype := .boolean) (ty := .boolean) (N' := (B * (8 * T)) + (8 * T)) (a0 := ((B * (8 * T)) + (8 * T), .inl (fun _ => 0))) hx hb (hts _ ac_boolean) rfl hK hP hD hS hA (fun _ => rfl) (nI_pos (n := (B * (8 * T)) + (8 * T)) (Nat.lt_of_le_of_lt hbd1 (by decide))) (nI_clamp (n := (B * (8 * T)) + (8 * T)) (Nat.lt_of_le_of_lt hbd1 (by decide))) (Nat.le_trans (Nat.mul_le_mul_right _ hbd1) (by decide)) (Nat.le_of_ble_eq_true rfl) (Nat.le_trans (Nat.add_le_add_left hbd1 _) (Nat.le_of_ble_eq_true rfl)) dX2_init_120 (fun q3 c4 H hK hP hD hS => ?_)
  have hP : va_P D vwCl [(h0, .inr (2, [.int (nI B), .int (nI T), .int (nI S), .int (nI (8 * T)), .int (nI (B * (8 * T))), .int (nI C), .ref q1, .null, .int 0, .int 0, .int 0, .int 0, .int 0, .int 0, .int 0])), (q1, .inl (c2, ((((B * (8 * T)) + (8 * T)) + C) * 8), .inr (.inl (fun _ => 0)))), (q3, .inl (c4, ((B * (8 * T)) + (8 * T)), .inl (fun _ => 0)))] H := hP
  have hD : va_D A [(h0, .inr (2, [.int (nI B), .int (nI T), .int (nI S), .int (nI (8 * T)), .int (nI (B * (8 * T))), .int (nI C), .ref q1, .null, .int 0, .int 0, .int 0, .int 0, .int 0, .int 0, .int 0])), (q1, .inl (c2, ((((B * (8 * T)) + (8 * T)) + C) * 8), .inr (.inl (fun _ => 0)))), (q3, .inl (c4, ((B * (8 * T)) + (8 * T)), .inl (fun _ => 0)))] := hD
  have hK : va_K D vwCl [(c2, .long), (c4, .boolean)] s := hK
  refine W.widen (k := 2) (n := 22784) (by omega) (by omega) ?_
  refine va_putF (D := D) (ci := 2) (v := .ref q3) (ty := .array .boolean) (C := RX2) (T := TX2) (N := 15) hx hb hts inT_X2 tyX2 tyX2_ok nmX2 hown hK hP hD hS 0 rfl rfl 7 (by decide) (hts _ fl_X2_43) (fun _ h9 => h9) rfl hin rfl (by decide +kernel) rfl rfl (Nat.le_of_ble_eq_true rfl) dX2_init_122 (fun H locs hP hD hS => ?_)
  have hP : va_P D vwCl [(h0, .inr (2, [.int (nI B), .int (nI T), .int (nI S), .int (nI (8 * T)), .int (nI (B * (8 * T))), .int (nI C), .ref q1, .ref q3, .int 0, .int 0, .int 0, .int 0, .int 0, .int 0, .int 0])), (q1, .inl (c2, ((((B * (8 * T)) + (8 * T)) + C) * 8), .inr (.inl (fun _ => 0)))), (q3, .inl (c4, ((B * (8 * T)) + (8 * T)), .inl (fun _ => 0)))] H := hP
  have hD : va_D A [(h0, .inr (2, [.int (nI B), .int (nI T), .int (nI S), .int (nI (8 * T)), .int (nI (B * (8 * T))), .int (nI C), .ref q1, .ref q3, .int 0, .int 0, .int 0, .int 0, .int 0, .int 0, .int 0])), (q1, .inl (c2, ((((B * (8 * T)) + (8 * T)) + C) * 8), .inr (.inl (fun _ => 0)))), (q3, .inl (c4, ((B * (8 * T)) + (8 * T)), .inl (fun _ => 0)))] := hD
  refine lv_aload_n hx hb dX2_init_125 rfl (lv_at hl 0 rfl) ?_
  refine lv_iconst (v := 1) hx hb dX2_init_126 (by decide) ?_
  refine va_put (D := D) (ci := 2) (v := .int 1) (ty := .boolean) (C := RX2) (T := TX2) (N := 15) hx hb hts inT_X2 tyX2 tyX2_ok nmX2 hown hK hP hD hS 0 rfl rfl 8 (by decide) (hts _ fl_X2_47) (fun _ h9 => h9) rfl (by decide +kernel) rfl rfl (Nat.le_of_ble_eq_true rfl) dX2_init_127 (fun H locs hP hD hS => ?_)
  have hP : va_P D vwCl [(h0, .inr (2, [.int (nI B), .int (nI T), .int (nI S), .int (nI (8 * T)), .int (nI (B * (8 * T))), .int (nI C), .ref q1, .ref q3, .int 1, .int 0, .int 0, .int 0, .int 0, .int 0, .int 0])), (q1, .inl (c2, ((((B * (8 * T)) + (8 * T)) + C) * 8), .inr (.inl (fun _ => 0)))), (q3, .inl (c4, ((B * (8 * T)) + (8 * T)), .inl (fun _ => 0)))] H := hP
  have hD : va_D A [(h0, .inr (2, [.int (nI B), .int (nI T), .int (nI S), .int (nI (8 * T)), .int (nI (B * (8 * T))), .int (nI C), .ref q1, .ref q3, .int 1, .int 0, .int 0, .int 0, .int 0, .int 0, .int 0])), (q1, .inl (c2, ((((B * (8 * T)) + (8 * T)) + C) * 8), .inr (.inl (fun _ => 0)))), (q3, .inl (c4, ((B * (8 * T)) + (8 * T)), .inl (fun _ => 0)))] := hD
  refine lv_aload_n hx hb dX2_init_130 rfl (lv_at hl 0 rfl) ?_
  refine lv_iconst (v := (-1)) hx hb dX2_init_131 (by decide) ?_
  refine va_put (D := D) (ci := 2) (v := .int (-1)) (ty := .int) (C := RX2) (T := TX2) (N := 15) hx hb hts inT_X2 tyX2 tyX2_ok nmX2 hown hK hP hD hS 0 rfl rfl 9 (by decide) (hts _ fl_X2_51) (fun _ h9 => h9) rfl (by decide +kernel) rfl rfl (Nat.le_of_ble_eq_true rfl) dX2_init_132 (fun H locs hP hD hS => ?_)
  have hP : va_P D vwCl [(h0, .inr (2, [.int (nI B), .int (nI T), .int (nI S), .int (nI (8 * T)), .int (nI (B * (8 * T))), .int (nI C), .ref q1, .ref q3, .int 1, .int (-1), .int 0, .int 0, .int 0, .int 0, .int 0])), (q1, .inl (c2, ((((B * (8 * T)) + (8 * T)) + C) * 8), .inr (.inl (fun _ => 0)))), (q3, .inl (c4, ((B * (8 * T)) + (8 * T)), .inl (fun _ => 0)))] H := hP
  have hD : va_D A [(h0, .inr (2, [.int (nI B), .int (nI T), .int (nI S), .int (nI (8 * T)), .int (nI (B * (8 * T))), .int (nI C), .ref q1, .ref q3, .int 1, .int (-1), .int 0, .int 0, .int 0, .int 0, .int 0])), (q1, .inl (c2, ((((B * (8 * T)) + (8 * T)) + C) * 8), .inr (.inl (fun _ => 0)))), (q3, .inl (c4, ((B * (8 * T)) + (8 * T)), .inl (fun _ => 0)))] := hD
  have hK9 := hK.sub (tys' := [(c2, .long), (c4, .boolean)]) [0, 1] rfl
  refine W.widen (k := 2) (n := 22784) (by omega) (by omega) ?_
  exact W.vret hx hb hr (fun t ht hW => ⟨⟨(), rfl, trivial, q1, q3, c2, c4, by rw [ht]; exact hP, va_K.moved hW.alike hK9, hD⟩, hS.F ht⟩) hS.2.2 dX2_init_135
set_option maxHeartbeats 4000000 in
set_option maxRecDepth 100000 in
theorem ki_X7 (l : Launch) (D : va_G) (h0 sz : Nat) (xN : Nat) (hh0 : xN ≤ 1280) : Met l yX7_init (Cond.code yX7_init cX7_init 2 none :: q_T) ({ frames := 1, cells := 1, slots := 1280, locals := 12 } : Room) (va_Pc [.ref h0, .int (nI xN)] (fun U => U.heap.size = sz ∧ va_P D vwCl [(h0, .inr (7, [.null, .int 0]))] U.heap ∧ va_K D vwCl [] U ∧ va_D (fun _ => True) [(h0, .inr (7, [.null, .int 0]))])) (va_Qv (fun _ : Unit => True) (fun _ t => ∃ (q1 : Nat) (c2 : ClassId), va_P D vwCl [(h0, .inr (7, [.ref q1, .int 0])), (q1, .inl (c2, xN, .inl (fun _ => 0)))] t.heap ∧ va_K D vwCl [(c2, .int)] t ∧ va_D (va_A [(h0, .inr (7, [.null, .int 0]))] sz) [(h0, .inr (7, [.ref q1, .int 0])), (q1, .inl (c2, xN, .inl (fun _ => 0)))]) (va_A [(h0, .inr (7, [.null, .int 0]))] sz)) 1 1280 (va_A [(h0, .inr (7, [.null, .int 0]))] sz) := by
  refine Met.ofW (cc := cX7_init) (maxL := 2) (ret := none) (by decide) rfl ?_
  intro p e s m args below meth c s₁ Bd hml hv
  obtain ⟨rfl, hsz, hP, hK, hD0⟩ := hv
  have hx := Bd.exec
  have hb := Bd.bytes
  have hr := Bd.returns
  have hts := q_ts (atoms_spec (ws := Cond.code yX7_init cX7_init 2 none :: q_T) Bd.pre)
  have hown : s.vm.findClass RX7 = some m.cls := findClass_of_methodNamed Bd.named
  have hlocks := Bd.notSynchronized
  have hin : meth.name = "<init>" := (name_of_methodNamed Bd.named Bd.method).1
  subst hsz
  have hD := hD0.self (sz := s.heap.size)
  generalize hAe : va_A [(h0, .inr (7, [.null, .int 0]))] s.heap.size = A at hD ⊢
  have hA : ∀ q : Nat, s.heap.size ≤ q → A q := fun q h => by rw [← hAe]; exact Or.inr h
  have hS : va_S A s.heap s.heap [] := va_S.rf
  have hl := lv_entry ([.ref h0, .int (nI xN)]) (n := 2) (Nat.le_of_ble_eq_true rfl)
  rw [lg_entry_eq]
  generalize (lg_sl ([.ref h0, .int (nI xN)]) ++ List.replicate (2 - (lg_sl ([.ref h0, .int (nI xN)])).length) Slot.unset).toArray = ls at hl ⊢
  have hl : lv_has ls 2 [(0, .ref h0), (1, .int (nI xN))] := hl
  refine lv_aload_n hx hb dX7_init_0 rfl (lv_at hl 0 rfl) ?_
  refine W.objInit hx hb hown (hts _ ol_X7_1) (hts _ oi_i) (hts _ oi_c) rfl (by rw [hml]; exact hl.1) rfl dX7_init_1 (Nat.le_of_ble_eq_true rfl) (Nat.le_of_ble_eq_true rfl) ?_
  refine W.eq (g2 := F0 m 4 ls []) rfl ?_
  refine lv_aload_n hx hb dX7_init_4 rfl (lv_at hl 0 rfl) ?_
  refine lv_iload_n hx hb dX7_init_5 rfl (lv_at hl 1 rfl) ?_
  have hbd0 : xN ≤ 1280 := by omega
  refine va_newa (atype := .int) (ty := .int) (N' := xN) (a0 := (xN, .inl (fun _ => 0))) hx hb (hts _ ac_int) rfl hK hP hD hS hA (fun _ => rfl) (nI_pos (n := xN) (Nat.lt_of_le_of_lt hbd0 (by decide))) (nI_clamp (n := xN) (Nat.lt_of_le_of_lt hbd0 (by decide))) (Nat.le_trans (Nat.mul_le_mul_right _ hbd0) (by decide)) (Nat.le_of_ble_eq_true rfl) (Nat.le_trans (Nat.add_le_add_left hbd0 _) (Nat.le_of_ble_eq_true rfl)) dX7_init_6 (fun q1 c2 H hK hP hD hS => ?_)
  have hP : va_P D vwCl [(h0, .inr (7, [.null, .int 0])), (q1, .inl (c2, xN, .inl (fun _ => 0)))] H := hP
  have hD : va_D A [(h0, .inr (7, [.null, .int 0])), (q1, .inl (c2, xN, .inl (fun _ => 0)))] := hD
  have hK : va_K D vwCl [(c2, .int)] s := hK
  refine W.widen (k := 1) (n := 1280) (by omega) (by omega) ?_
  refine va_putF (D := D) (ci := 7) (v := .ref q1) (ty := .array .int) (C := RX7) (T := TX7) (N := 2) hx hb hts inT_X7 tyX7 tyX7_ok nmX7 hown hK hP hD hS 0 rfl rfl 0 (by decide) (hts _ fl_X7_7) (fun _ h9 => h9) rfl hin rfl (by decide +kernel) rfl rfl (Nat.le_of_ble_eq_true rfl) dX7_init_8 (fun H locs hP hD hS => ?_)
  have hP : va_P D vwCl [(h0, .inr (7, [.ref q1, .int 0])), (q1, .inl (c2, xN, .inl (fun _ => 0)))] H := hP
  have hD : va_D A [(h0, .inr (7, [.ref q1, .int 0])), (q1, .inl (c2, xN, .inl (fun _ => 0)))] := hD
  have hK9 := hK.sub (tys' := [(c2, .int)]) [0] rfl
  refine W.widen (k := 1) (n := 1280) (by omega) (by omega) ?_
  exact W.vret hx hb hr (fun t ht hW => ⟨⟨(), rfl, trivial, q1, c2, by rw [ht]; exact hP, va_K.moved hW.alike hK9, hD⟩, hS.F ht⟩) hS.2.2 dX7_init_11
set_option maxHeartbeats 4000000 in
set_option maxRecDepth 100000 in
theorem ki_X8 (l : Launch) (D : va_G) (h0 sz : Nat) (hd : Nat) (dB : Nat) (dT : Nat) (dS : Nat) (dW : Nat) (dL : Nat) (dC : Nat) (qc : Nat) (ql : Nat) (hh0 : dB ≤ 8) (hh1 : dC ≤ 256) (hh2 : dL ≤ 2048) {N : Nat} {lat1 : Nat → Int32} (hfill : fG7_fill (fun _ => dL) N (-1) q_z = some ((), q_sa q_z 0 lat1)) : Met l yX8_init (Cond.code yX8_init cX8_init 2 none :: q_T) ({ frames := 2, cells := 7, slots := 3610, locals := 33 } : Room) (va_Pc [.ref h0, .ref hd] (fun U => U.heap.size = sz ∧ va_P D vwCl [(h0, .inr (8, [.null, .null, .null, .null, .null, .null, .null, .int 0, .int 0, .int 0, .int 0, .int 0, .int 0, .int 0, .int 0])), (hd, .inr (2, [.int (nI dB), .int (nI dT), .int (nI dS), .int (nI dW), .int (nI dL), .int (nI dC), .ref qc, .ref ql, .int 1, .int (-1), .int 0, .int 0, .int 0, .int 0, .int 0]))] U.heap ∧ va_K D vwCl [] U ∧ va_D (fun _ => True) [(h0, .inr (8, [.null, .null, .null, .null, .null, .null, .null, .int 0, .int 0, .int 0, .int 0, .int 0, .int 0, .int 0, .int 0])), (hd, .inr (2, [.int (nI dB), .int (nI dT), .int (nI dS), .int (nI dW), .int (nI dL), .int (nI dC), .ref qc, .ref ql, .int 1, .int (-1), .int 0, .int 0, .int 0, .int 0, .int 0]))])) (va_Qv (fun _ : Unit => True) (fun _ t => ∃ (q1 : Nat) (q3 : Nat) (q5 : Nat) (q9 : Nat) (q11 : Nat) (q12 : Nat) (q7 : Nat) (c2 : ClassId) (c4 : ClassId) (c6 : ClassId) (c8 : ClassId) (c10 : ClassId) (c13 : ClassId), va_P D vwCl [(h0, .inr (8, [.ref hd, .ref q1, .ref q5, .ref q7, .ref q3, .ref q9, .ref q11, .int 0, .int 0, .int (-1), .int 0, .int 0, .int 0, .int (-1), .int 0])), (hd, .inr (2, [.int (nI dB), .int (nI dT), .int (nI dS), .int (nI dW), .int (nI dL), .int (nI dC), .ref qc, .ref ql, .int 1, .int (-1), .int 0, .int 0, .int 0, .int 0, .int 0])), (q1, .inl (c2, dB, .inl (fun _ => 0))), (q3, .inl (c4, dB, .inl (fun _ => 0))), (q5, .inl (c6, dC, .inl (fun _ => 0))), (q9, .inl (c10, 8, .inr (.inl (fun _ => 0)))), (q11, .inr (7, [.ref q12, .int 0])), (q12, .inl (c13, 0, .inl (fun _ => 0))), (q7, .inl (c8, dL, .inl lat1))] t.heap ∧ va_K D vwCl [(c2, .int), (c4, .int), (c6, .int), (c8, .int), (c10, .long), (c13, .int)] t ∧ va_D (va_A [(h0, .inr (8, [.null, .null, .null, .null, .null, .null, .null, .int 0, .int 0, .int 0, .int 0, .int 0, .int 0, .int 0, .int 0])), (hd, .inr (2, [.int (nI dB), .int (nI dT), .int (nI dS), .int (nI dW), .int (nI dL), .int (nI dC), .ref qc, .ref ql, .int 1, .int (-1), .int 0, .int 0, .int 0, .int 0, .int 0]))] sz) [(h0, .inr (8, [.ref hd, .ref q1, .ref q5, .ref q7, .ref q3, .ref q9, .ref q11, .int 0, .int 0, .int (-1), .int 0, .int 0, .int 0, .int (-1), .int 0])), (hd, .inr (2, [.int (nI dB), .int (nI dT), .int (nI dS), .int (nI dW), .int (nI dL), .int (nI dC), .ref qc, .ref ql, .int 1, .int (-1), .int 0, .int 0, .int 0, .int 0, .int 0])), (q1, .inl (c2, dB, .inl (fun _ => 0))), (q3, .inl (c4, dB, .inl (fun _ => 0))), (q5, .inl (c6, dC, .inl (fun _ => 0))), (q9, .inl (c10, 8, .inr (.inl (fun _ => 0)))), (q11, .inr (7, [.ref q12, .int 0])), (q12, .inl (c13, 0, .inl (fun _ => 0))), (q7, .inl (c8, dL, .inl lat1))]) (va_A [(h0, .inr (8, [.null, .null, .null, .null, .null, .null, .null, .int 0, .int 0, .int 0, .int 0, .int 0, .int 0, .int 0, .int 0])), (hd, .inr (2, [.int (nI dB), .int (nI dT), .int (nI dS), .int (nI dW), .int (nI dL), .int (nI dC), .ref qc, .ref ql, .int 1, .int (-1), .int 0, .int 0, .int 0, .int 0, .int 0]))] sz)) 7 3610 (va_A [(h0, .inr (8, [.null, .null, .null, .null, .null, .null, .null, .int 0, .int 0, .int 0, .int 0, .int 0, .int 0, .int 0, .int 0])), (hd, .inr (2, [.int (nI dB), .int (nI dT), .int (nI dS), .int (nI dW), .int (nI dL), .int (nI dC), .ref qc, .ref ql, .int 1, .int (-1), .int 0, .int 0, .int 0, .int 0, .int 0]))] sz) := by
  refine Met.ofW (cc := cX8_init) (maxL := 2) (ret := none) (by decide) rfl ?_
  intro p e s m args below meth c s₁ Bd hml hv
  obtain ⟨rfl, hsz, hP, hK, hD0⟩ := hv
  have hx := Bd.exec
  have hb := Bd.bytes
  have hr := Bd.returns
  have hts := q_ts (atoms_spec (ws := Cond.code yX8_init cX8_init 2 none :: q_T) Bd.pre)
  have hown : s.vm.findClass RX8 = some m.cls := findClass_of_methodNamed Bd.named
  have hlocks := Bd.notSynchronized
  have hin : meth.name = "<init>" := (name_of_methodNamed Bd.named Bd.method).1
  subst hsz
  have hD := hD0.self (sz := s.heap.size)
  generalize hAe : va_A [(h0, .inr (8, [.null, .null, .null, .null, .null, .null, .null, .int 0, .int 0, .int 0, .int 0, .int 0, .int 0, .int 0, .int 0])), (hd, .inr (2, [.int (nI dB), .int (nI dT), .int (nI dS), .int (nI dW), .int (nI dL), .int (nI dC), .ref qc, .ref ql, .int 1, .int (-1), .int 0, .int 0, .int 0, .int 0, .int 0]))] s.heap.size = A at hD ⊢
  have hA : ∀ q : Nat, s.heap.size ≤ q → A q := fun q h => by rw [← hAe]; exact Or.inr h
  have hS : va_S A s.heap s.heap [] := va_S.rf
  have hl := lv_entry ([.ref h0, .ref hd]) (n := 2) (Nat.le_of_ble_eq_true rfl)
  rw [lg_entry_eq]
  generalize (lg_sl ([.ref h0, .ref hd]) ++ List.replicate (2 - (lg_sl ([.ref h0, .ref hd])).length) Slot.unset).toArray = ls at hl ⊢
  have hl : lv_has ls 2 [(0, .ref h0), (1, .ref hd)] := hl
  refine lv_aload_n hx hb dX8_init_0 rfl (lv_at hl 0 rfl) ?_
  refine W.objInit hx hb hown (hts _ ol_X8_3) (hts _ oi_i) (hts _ oi_c) rfl (by rw [hml]; exact hl.1) rfl dX8_init_1 (Nat.le_of_ble_eq_true rfl) (Nat.le_of_ble_eq_true rfl) ?_
  refine W.eq (g2 := F0 m 4 ls []) rfl ?_
  refine lv_aload_n hx hb dX8_init_4 rfl (lv_at hl 0 rfl) ?_
  refine lv_aload_n hx hb dX8_init_5 rfl (lv_at hl 1 rfl) ?_
  refine va_putF (D := D) (ci := 8) (v := .ref hd) (ty := .object "ShingleHouse$Disk") (C := RX8) (T := TX8) (N := 15) hx hb hts inT_X8 tyX8 tyX8_ok nmX8 hown hK hP hD hS 0 rfl rfl 0 (by decide) (hts _ fl_X8_9) (fun _ h9 => h9) rfl hin rfl (by decide +kernel) rfl rfl (Nat.le_of_ble_eq_true rfl) dX8_init_6 (fun H locs hP hD hS => ?_)
  have hP : va_P D vwCl [(h0, .inr (8, [.ref hd, .null, .null, .null, .null, .null, .null, .int 0, .int 0, .int 0, .int 0, .int 0, .int 0, .int 0, .int 0])), (hd, .inr (2, [.int (nI dB), .int (nI dT), .int (nI dS), .int (nI dW), .int (nI dL), .int (nI dC), .ref qc, .ref ql, .int 1, .int (-1), .int 0, .int 0, .int 0, .int 0, .int 0]))] H := hP
  have hD : va_D A [(h0, .inr (8, [.ref hd, .null, .null, .null, .null, .null, .null, .int 0, .int 0, .int 0, .int 0, .int 0, .int 0, .int 0, .int 0])), (hd, .inr (2, [.int (nI dB), .int (nI dT), .int (nI dS), .int (nI dW), .int (nI dL), .int (nI dC), .ref qc, .ref ql, .int 1, .int (-1), .int 0, .int 0, .int 0, .int 0, .int 0]))] := hD
  refine lv_aload_n hx hb dX8_init_9 rfl (lv_at hl 0 rfl) ?_
  refine lv_aload_n hx hb dX8_init_10 rfl (lv_at hl 1 rfl) ?_
  refine va_get (D := D) (ci := 2) (v := .int (nI dB)) (C := RX2) (T := TX2) (N := 15) hx hb hts inT_X2 hown hK hP 1 rfl rfl 0 (by decide) (hts _ fl_X8_15) (fun _ h9 => h9) rfl dX8_init_11 ?_
  have hbd0 : dB ≤ 8 := by omega
  refine va_newa (atype := .int) (ty := .int) (N' := dB) (a0 := (dB, .inl (fun _ => 0))) hx hb (hts _ ac_int) rfl hK hP hD hS hA (fun _ => rfl) (nI_pos (n := dB) (Nat.lt_of_le_of_lt hbd0 (by decide))) (nI_clamp (n := dB) (Nat.lt_of_le_of_lt hbd0 (by decide))) (Nat.le_trans (Nat.mul_le_mul_right _ hbd0) (by decide)) (Nat.le_of_ble_eq_true rfl) (Nat.le_trans (Nat.add_le_add_left hbd0 _) (Nat.le_of_ble_eq_true rfl)) dX8_init_14 (fun q1 c2 H hK hP hD hS => ?_)
  have hP : va_P D vwCl [(h0, .inr (8, [.ref hd, .null, .null, .null, .null, .null, .null, .int 0, .int 0, .int 0, .int 0, .int 0, .int 0, .int 0, .int 0])), (hd, .inr (2, [.int (nI dB), .int (nI dT), .int (nI dS), .int (nI dW), .int (nI dL), .int (nI dC), .ref qc, .ref ql, .int 1, .int (-1), .int 0, .int 0, .int 0, .int 0, .int 0])), (q1, .inl (c2, dB, .inl (fun _ => 0)))] H := hP
  have hD : va_D A [(h0, .inr (8, [.ref hd, .null, .null, .null, .null, .null, .null, .int 0, .int 0, .int 0, .int 0, .int 0, .int 0, .int 0, .int 0])), (hd, .inr (2, [.int (nI dB), .int (nI dT), .int (nI dS), .int (nI dW), .int (nI dL), .int (nI dC), .ref qc, .ref ql, .int 1, .int (-1), .int 0, .int 0, .int 0, .int 0, .int 0])), (q1, .inl (c2, dB, .inl (fun _ => 0)))] := hD
  have hK : va_K D vwCl [(c2, .int)] s := hK
  refine W.widen (k := 1) (n := 8) (by omega) (by omega) ?_
  refine va_putF (D := D) (ci := 8) (v := .ref q1) (ty := .array .int) (C := RX8) (T := TX8) (N := 15) hx hb hts inT_X8 tyX8 tyX8_ok nmX8 hown hK hP hD hS 0 rfl rfl 1 (by decide) (hts _ fl_X8_21) (fun _ h9 => h9) rfl hin rfl (by decide +kernel) rfl rfl (Nat.le_of_ble_eq_true rfl) dX8_init_16 (fun H locs hP hD hS => ?_)
  have hP : va_P D vwCl [(h0, .inr (8, [.ref hd, .ref q1, .null, .null, .null, .null, .null, .int 0, .int 0, .int 0, .int 0, .int 0, .int 0, .int 0, .int 0])), (hd, .inr (2, [.int (nI dB), .int (nI dT), .int (nI dS), .int (nI dW), .int (nI dL), .int (nI dC), .ref qc, .ref ql, .int 1, .int (-1), .int 0, .int 0, .int 0, .int 0, .int 0])), (q1, .inl (c2, dB, .inl (fun _ => 0)))] H := hP
  have hD : va_D A [(h0, .inr (8, [.ref hd, .ref q1, .null, .null, .null, .null, .null, .int 0, .int 0, .int 0, .int 0, .int 0, .int 0, .int 0, .int 0])), (hd, .inr (2, [.int (nI dB), .int (nI dT), .int (nI dS), .int (nI dW), .int (nI dL), .int (nI dC), .ref qc, .ref ql, .int 1, .int (-1), .int 0, .int 0, .int 0, .int 0, .int 0])), (q1, .inl (c2, dB, .inl (fun _ => 0)))] := hD
  refine lv_aload_n hx hb dX8_init_19 rfl (lv_at hl 0 rfl) ?_
  refine lv_aload_n hx hb dX8_init_20 rfl (lv_at hl 1 rfl) ?_
  refine va_get (D := D) (ci := 2) (v := .int (nI dB)) (C := RX2) (T := TX2) (N := 15) hx hb hts inT_X2 hown hK hP 1 rfl rfl 0 (by decide) (hts _ fl_X8_15) (fun _ h9 => h9) rfl dX8_init_21 ?_
  have hbd1 : dB ≤ 8 := by omega
  refine va_newa (atype := .int) (ty := .int) (N' := dB) (a0 := (dB, .inl (fun _ => 0))) hx hb (hts _ ac_int) rfl hK hP hD hS hA (fun _ => rfl) (nI_pos (n := dB) (Nat.lt_of_le_of_lt hbd1 (by decide))) (nI_clamp (n := dB) (Nat.lt_of_le_of_lt hbd1 (by decide))) (Nat.le_trans (Nat.mul_le_mul_right _ hbd1) (by decide)) (Nat.le_of_ble_eq_true rfl) (Nat.le_trans (Nat.add_le_add_left hbd1 _) (Nat.le_of_ble_eq_true rfl)) dX8_init_24 (fun q3 c4 H hK hP hD hS => ?_)
  have hP : va_P D vwCl [(h0, .inr (8, [.ref hd, .ref q1, .null, .null, .null, .null, .null, .int 0, .int 0, .int 0, .int 0, .int 0, .int 0, .int 0, .int 0])), (hd, .inr (2, [.int (nI dB), .int (nI dT), .int (nI dS), .int (nI dW), .int (nI dL), .int (nI dC), .ref qc, .ref ql, .int 1, .int (-1), .int 0, .int 0, .int 0, .int 0, .int 0])), (q1, .inl (c2, dB, .inl (fun _ => 0))), (q3, .inl (c4, dB, .inl (fun _ => 0)))] H := hP
  have hD : va_D A [(h0, .inr (8, [.ref hd, .ref q1, .null, .null, .null, .null, .null, .int 0, .int 0, .int 0, .int 0, .int 0, .int 0, .int 0, .int 0])), (hd, .inr (2, [.int (nI dB), .int (nI dT), .int (nI dS), .int (nI dW), .int (nI dL), .int (nI dC), .ref qc, .ref ql, .int 1, .int (-1), .int 0, .int 0, .int 0, .int 0, .int 0])), (q1, .inl (c2, dB, .inl (fun _ => 0))), (q3, .inl (c4, dB, .inl (fun _ => 0)))] := hD
  have hK : va_K D vwCl [(c2, .int), (c4, .int)] s := hK
  refine W.widen (k := 2) (n := 16) (by omega) (by omega) ?_
  refine va_putF (D := D) (ci := 8) (v := .ref q3) (ty := .array .int) (C := RX8) (T := TX8) (N := 15) hx hb hts inT_X8 tyX8 tyX8_ok nmX8 hown hK hP hD hS 0 rfl rfl 4 (by decide) (hts _ fl_X8_25) (fun _ h9 => h9) rfl hin rfl (by decide +kernel) rfl rfl (Nat.le_of_ble_eq_true rfl) dX8_init_26 (fun H locs hP hD hS => ?_)
  have hP : va_P D vwCl [(h0, .inr (8, [.ref hd, .ref q1, .null, .null, .ref q3, .null, .null, .int 0, .int 0, .int 0, .int 0, .int 0, .int 0, .int 0, .int 0])), (hd, .inr (2, [.int (nI dB), .int (nI dT), .int (nI dS), .int (nI dW), .int (nI dL), .int (nI dC), .ref qc, .ref ql, .int 1, .int (-1), .int 0, .int 0, .int 0, .int 0, .int 0])), (q1, .inl (c2, dB, .inl (fun _ => 0))), (q3, .inl (c4, dB, .inl (fun _ => 0)))] H := hP
  have hD : va_D A [(h0, .inr (8, [.ref hd, .ref q1, .null, .null, .ref q3, .null, .null, .int 0, .int 0, .int 0, .int 0, .int 0, .int 0, .int 0, .int 0])), (hd, .inr (2, [.int (nI dB), .int (nI dT), .int (nI dS), .int (nI dW), .int (nI dL), .int (nI dC), .ref qc, .ref ql, .int 1, .int (-1), .int 0, .int 0, .int 0, .int 0, .int 0])), (q1, .inl (c2, dB, .inl (fun _ => 0))), (q3, .inl (c4, dB, .inl (fun _ => 0)))] := hD
  refine lv_aload_n hx hb dX8_init_29 rfl (lv_at hl 0 rfl) ?_
  refine lv_aload_n hx hb dX8_init_30 rfl (lv_at hl 1 rfl) ?_
  refine va_get (D := D) (ci := 2) (v := .int (nI dC)) (C := RX2) (T := TX2) (N := 15) hx hb hts inT_X2 hown hK hP 1 rfl rfl 5 (by decide) (hts _ fl_X8_28) (fun _ h9 => h9) rfl dX8_init_31 ?_
  have hbd2 : dC ≤ 256 := by omega
  refine va_newa (atype := .int) (ty := .int) (N' := dC) (a0 := (dC, .inl (fun _ => 0))) hx hb (hts _ ac_int) rfl hK hP hD hS hA (fun _ => rfl) (nI_pos (n := dC) (Nat.lt_of_le_of_lt hbd2 (by decide))) (nI_clamp (n := dC) (Nat.lt_of_le_of_lt hbd2 (by decide))) (Nat.le_trans (Nat.mul_le_mul_right _ hbd2) (by decide)) (Nat.le_of_ble_eq_true rfl) (Nat.le_trans (Nat.add_le_add_left hbd2 _) (Nat.le_of_ble_eq_true rfl)) dX8_init_34 (fun q5 c6 H hK hP hD hS => ?_)
  have hP : va_P D vwCl [(h0, .inr (8, [.ref hd, .ref q1, .null, .null, .ref q3, .null, .null, .int 0, .int 0, .int 0, .int 0, .int 0, .int 0, .int 0, .int 0])), (hd, .inr (2, [.int (nI dB), .int (nI dT), .int (nI dS), .int (nI dW), .int (nI dL), .int (nI dC), .ref qc, .ref ql, .int 1, .int (-1), .int 0, .int 0, .int 0, .int 0, .int 0])), (q1, .inl (c2, dB, .inl (fun _ => 0))), (q3, .inl (c4, dB, .inl (fun _ => 0))), (q5, .inl (c6, dC, .inl (fun _ => 0)))] H := hP
  have hD : va_D A [(h0, .inr (8, [.ref hd, .ref q1, .null, .null, .ref q3, .null, .null, .int 0, .int 0, .int 0, .int 0, .int 0, .int 0, .int 0, .int 0])), (hd, .inr (2, [.int (nI dB), .int (nI dT), .int (nI dS), .int (nI dW), .int (nI dL), .int (nI dC), .ref qc, .ref ql, .int 1, .int (-1), .int 0, .int 0, .int 0, .int 0, .int 0])), (q1, .inl (c2, dB, .inl (fun _ => 0))), (q3, .inl (c4, dB, .inl (fun _ => 0))), (q5, .inl (c6, dC, .inl (fun _ => 0)))] := hD
  have hK : va_K D vwCl [(c2, .int), (c4, .int), (c6, .int)] s := hK
  refine W.widen (k := 3) (n := 272) (by omega) (by omega) ?_
  refine va_putF (D := D) (ci := 8) (v := .ref q5) (ty := .array .int) (C := RX8) (T := TX8) (N := 15) hx hb hts inT_X8 tyX8 tyX8_ok nmX8 hown hK hP hD hS 0 rfl rfl 2 (by decide) (hts _ fl_X8_31) (fun _ h9 => h9) rfl hin rfl (by decide +kernel) rfl rfl (Nat.le_of_ble_eq_true rfl) dX8_init_36 (fun H locs hP hD hS => ?_)
  have hP : va_P D vwCl [(h0, .inr (8, [.ref hd, .ref q1, .ref q5, .null, .ref q3, .null, .null, .int 0, .int 0, .int 0, .int 0, .int 0, .int 0, .int 0, .int 0])), (hd, .inr (2, [.int (nI dB), .int (nI dT), .int (nI dS), .int (nI dW), .int (nI dL), .int (nI dC), .ref qc, .ref ql, .int 1, .int (-1), .int 0, .int 0, .int 0, .int 0, .int 0])), (q1, .inl (c2, dB, .inl (fun _ => 0))), (q3, .inl (c4, dB, .inl (fun _ => 0))), (q5, .inl (c6, dC, .inl (fun _ => 0)))] H := hP
  have hD : va_D A [(h0, .inr (8, [.ref hd, .ref q1, .ref q5, .null, .ref q3, .null, .null, .int 0, .int 0, .int 0, .int 0, .int 0, .int 0, .int 0, .int 0])), (hd, .inr (2, [.int (nI dB), .int (nI dT), .int (nI dS), .int (nI dW), .int (nI dL), .int (nI dC), .ref qc, .ref ql, .int 1, .int (-1), .int 0, .int 0, .int 0, .int 0, .int 0])), (q1, .inl (c2, dB, .inl (fun _ => 0))), (q3, .inl (c4, dB, .inl (fun _ => 0))), (q5, .inl (c6, dC, .inl (fun _ => 0)))] := hD
  refine lv_aload_n hx hb dX8_init_39 rfl (lv_at hl 0 rfl) ?_
  refine lv_aload_n hx hb dX8_init_40 rfl (lv_at hl 1 rfl) ?_
  refine va_get (D := D) (ci := 2) (v := .int (nI dL)) (C := RX2) (T := TX2) (N := 15) hx hb hts inT_X2 hown hK hP 1 rfl rfl 4 (by decide) (hts _ fl_X8_34) (fun _ h9 => h9) rfl dX8_init_41 ?_
  have hbd3 : dL ≤ 2048 := by omega
  refine va_newa (atype := .int) (ty := .int) (N' := dL) (a0 := (dL, .inl (fun _ => 0))) hx hb (hts _ ac_int) rfl hK hP hD hS hA (fun _ => rfl) (nI_pos (n := dL) (Nat.lt_of_le_of_lt hbd3 (by decide))) (nI_clamp (n := dL) (Nat.lt_of_le_of_lt hbd3 (by decide))) (Nat.le_trans (Nat.mul_le_mul_right _ hbd3) (by decide)) (Nat.le_of_ble_eq_true rfl) (Nat.le_trans (Nat.add_le_add_left hbd3 _) (Nat.le_of_ble_eq_true rfl)) dX8_init_44 (fun q7 c8 H hK hP hD hS => ?_)
  have hP : va_P D vwCl [(h0, .inr (8, [.ref hd, .ref q1, .ref q5, .null, .ref q3, .null, .null, .int 0, .int 0, .int 0, .int 0, .int 0, .int 0, .int 0, .int 0])), (hd, .inr (2, [.int (nI dB), .int (nI dT), .int (nI dS), .int (nI dW), .int (nI dL), .int (nI dC), .ref qc, .ref ql, .int 1, .int (-1), .int 0, .int 0, .int 0, .int 0, .int 0])), (q1, .inl (c2, dB, .inl (fun _ => 0))), (q3, .inl (c4, dB, .inl (fun _ => 0))), (q5, .inl (c6, dC, .inl (fun _ => 0))), (q7, .inl (c8, dL, .inl (fun _ => 0)))] H := hP
  have hD : va_D A [(h0, .inr (8, [.ref hd, .ref q1, .ref q5, .null, .ref q3, .null, .null, .int 0, .int 0, .int 0, .int 0, .int 0, .int 0, .int 0, .int 0])), (hd, .inr (2, [.int (nI dB), .int (nI dT), .int (nI dS), .int (nI dW), .int (nI dL), .int (nI dC), .ref qc, .ref ql, .int 1, .int (-1), .int 0, .int 0, .int 0, .int 0, .int 0])), (q1, .inl (c2, dB, .inl (fun _ => 0))), (q3, .inl (c4, dB, .inl (fun _ => 0))), (q5, .inl (c6, dC, .inl (fun _ => 0))), (q7, .inl (c8, dL, .inl (fun _ => 0)))] := hD
  have hK : va_K D vwCl [(c2, .int), (c4, .int), (c6, .int), (c8, .int)] s := hK
  refine W.widen (k := 4) (n := 2320) (by omega) (by omega) ?_
  refine va_putF (D := D) (ci := 8) (v := .ref q7) (ty := .array .int) (C := RX8) (T := TX8) (N := 15) hx hb hts inT_X8 tyX8 tyX8_ok nmX8 hown hK hP hD hS 0 rfl rfl 3 (by decide) (hts _ fl_X8_37) (fun _ h9 => h9) rfl hin rfl (by decide +kernel) rfl rfl (Nat.le_of_ble_eq_true rfl) dX8_init_46 (fun H locs hP hD hS => ?_)
  have hP : va_P D vwCl [(h0, .inr (8, [.ref hd, .ref q1, .ref q5, .ref q7, .ref q3, .null, .null, .int 0, .int 0, .int 0, .int 0, .int 0, .int 0, .int 0, .int 0])), (hd, .inr (2, [.int (nI dB), .int (nI dT), .int (nI dS), .int (nI dW), .int (nI dL), .int (nI dC), .ref qc, .ref ql, .int 1, .int (-1), .int 0, .int 0, .int 0, .int 0, .int 0])), (q1, .inl (c2, dB, .inl (fun _ => 0))), (q3, .inl (c4, dB, .inl (fun _ => 0))), (q5, .inl (c6, dC, .inl (fun _ => 0))), (q7, .inl (c8, dL, .inl (fun _ => 0)))] H := hP
  have hD : va_D A [(h0, .inr (8, [.ref hd, .ref q1, .ref q5, .ref q7, .ref q3, .null, .null, .int 0, .int 0, .int 0, .int 0, .int 0, .int 0, .int 0, .int 0])), (hd, .inr (2, [.int (nI dB), .int (nI dT), .int (nI dS), .int (nI dW), .int (nI dL), .int (nI dC), .ref qc, .ref ql, .int 1, .int (-1), .int 0, .int 0, .int 0, .int 0, .int 0])), (q1, .inl (c2, dB, .inl (fun _ => 0))), (q3, .inl (c4, dB, .inl (fun _ => 0))), (q5, .inl (c6, dC, .inl (fun _ => 0))), (q7, .inl (c8, dL, .inl (fun _ => 0)))] := hD
  refine lv_aload_n hx hb dX8_init_49 rfl (lv_at hl 0 rfl) ?_
  refine lv_bipush (v := 8) hx hb dX8_init_50 (by decide) ?_
  refine va_newa (atype := .long) (ty := .long) (N' := 8) (a0 := (8, .inr (.inl (fun _ => 0)))) hx hb (hts _ ac_long) rfl hK hP hD hS hA (fun _ => rfl) (by decide) (by decide) (by decide) (Nat.le_of_ble_eq_true rfl) (Nat.le_of_ble_eq_true rfl) dX8_init_52 (fun q9 c10 H hK hP hD hS => ?_)
  have hP : va_P D vwCl [(h0, .inr (8, [.ref hd, .ref q1, .ref q5, .ref q7, .ref q3, .null, .null, .int 0, .int 0, .int 0, .int 0, .int 0, .int 0, .int 0, .int 0])), (hd, .inr (2, [.int (nI dB), .int (nI dT), .int (nI dS), .int (nI dW), .int (nI dL), .int (nI dC), .ref qc, .ref ql, .int 1, .int (-1), .int 0, .int 0, .int 0, .int 0, .int 0])), (q1, .inl (c2, dB, .inl (fun _ => 0))), (q3, .inl (c4, dB, .inl (fun _ => 0))), (q5, .inl (c6, dC, .inl (fun _ => 0))), (q7, .inl (c8, dL, .inl (fun _ => 0))), (q9, .inl (c10, 8, .inr (.inl (fun _ => 0))))] H := hP
  have hD : va_D A [(h0, .inr (8, [.ref hd, .ref q1, .ref q5, .ref q7, .ref q3, .null, .null, .int 0, .int 0, .int 0, .int 0, .int 0, .int 0, .int 0, .int 0])), (hd, .inr (2, [.int (nI dB), .int (nI dT), .int (nI dS), .int (nI dW), .int (nI dL), .int (nI dC), .ref qc, .ref ql, .int 1, .int (-1), .int 0, .int 0, .int 0, .int 0, .int 0])), (q1, .inl (c2, dB, .inl (fun _ => 0))), (q3, .inl (c4, dB, .inl (fun _ => 0))), (q5, .inl (c6, dC, .inl (fun _ => 0))), (q7, .inl (c8, dL, .inl (fun _ => 0))), (q9, .inl (c10, 8, .inr (.inl (fun _ => 0))))] := hD
  have hK : va_K D vwCl [(c2, .int), (c4, .int), (c6, .int), (c8, .int), (c10, .long)] s := hK
  refine W.widen (k := 5) (n := 2328) (by omega) (by omega) ?_
  refine va_putF (D := D) (ci := 8) (v := .ref q9) (ty := .array .long) (C := RX8) (T := TX8) (N := 15) hx hb hts inT_X8 tyX8 tyX8_ok nmX8 hown hK hP hD hS 0 rfl rfl 5 (by decide) (hts _ fl_X8_40) (fun _ h9 => h9) rfl hin rfl (by decide +kernel) rfl rfl (Nat.le_of_ble_eq_true rfl) dX8_init_54 (fun H locs hP hD hS => ?_)
  have hP : va_P D vwCl [(h0, .inr (8, [.ref hd, .ref q1, .ref q5, .ref q7, .ref q3, .ref q9, .null, .int 0, .int 0, .int 0, .int 0, .int 0, .int 0, .int 0, .int 0])), (hd, .inr (2, [.int (nI dB), .int (nI dT), .int (nI dS), .int (nI dW), .int (nI dL), .int (nI dC), .ref qc, .ref ql, .int 1, .int (-1), .int 0, .int 0, .int 0, .int 0, .int 0])), (q1, .inl (c2, dB, .inl (fun _ => 0))), (q3, .inl (c4, dB, .inl (fun _ => 0))), (q5, .inl (c6, dC, .inl (fun _ => 0))), (q7, .inl (c8, dL, .inl (fun _ => 0))), (q9, .inl (c10, 8, .inr (.inl (fun _ => 0))))] H := hP
  have hD : va_D A [(h0, .inr (8, [.ref hd, .ref q1, .ref q5, .ref q7, .ref q3, .ref q9, .null, .int 0, .int 0, .int 0, .int 0, .int 0, .int 0, .int 0, .int 0])), (hd, .inr (2, [.int (nI dB), .int (nI dT), .int (nI dS), .int (nI dW), .int (nI dL), .int (nI dC), .ref qc, .ref ql, .int 1, .int (-1), .int 0, .int 0, .int 0, .int 0, .int 0])), (q1, .inl (c2, dB, .inl (fun _ => 0))), (q3, .inl (c4, dB, .inl (fun _ => 0))), (q5, .inl (c6, dC, .inl (fun _ => 0))), (q7, .inl (c8, dL, .inl (fun _ => 0))), (q9, .inl (c10, 8, .inr (.inl (fun _ => 0))))] := hD
  refine lv_aload_n hx hb dX8_init_57 rfl (lv_at hl 0 rfl) ?_
  refine va_new (ci := 7) (fs := [.null, .int 0]) (C := RX7) (T := TX7) (N := 2) hx hb hts inT_X7 tyX7 tyX7_ok hown (hts _ cl_X8_44) (hts _ it_X7) (hts _ in_X7) hK hP hD hS hA rfl (fun j hj => by rcases (show j = 0 ∨ j = 1 by omega) with rfl | rfl <;> rfl) (Nat.le_of_ble_eq_true rfl) (Nat.le_of_ble_eq_true rfl) dX8_init_58 (fun q11 H hP hD hS => ?_)
  have hP : va_P D vwCl [(h0, .inr (8, [.ref hd, .ref q1, .ref q5, .ref q7, .ref q3, .ref q9, .null, .int 0, .int 0, .int 0, .int 0, .int 0, .int 0, .int 0, .int 0])), (hd, .inr (2, [.int (nI dB), .int (nI dT), .int (nI dS), .int (nI dW), .int (nI dL), .int (nI dC), .ref qc, .ref ql, .int 1, .int (-1), .int 0, .int 0, .int 0, .int 0, .int 0])), (q1, .inl (c2, dB, .inl (fun _ => 0))), (q3, .inl (c4, dB, .inl (fun _ => 0))), (q5, .inl (c6, dC, .inl (fun _ => 0))), (q7, .inl (c8, dL, .inl (fun _ => 0))), (q9, .inl (c10, 8, .inr (.inl (fun _ => 0)))), (q11, .inr (7, [.null, .int 0]))] H := hP
  have hD : va_D A [(h0, .inr (8, [.ref hd, .ref q1, .ref q5, .ref q7, .ref q3, .ref q9, .null, .int 0, .int 0, .int 0, .int 0, .int 0, .int 0, .int 0, .int 0])), (hd, .inr (2, [.int (nI dB), .int (nI dT), .int (nI dS), .int (nI dW), .int (nI dL), .int (nI dC), .ref qc, .ref ql, .int 1, .int (-1), .int 0, .int 0, .int 0, .int 0, .int 0])), (q1, .inl (c2, dB, .inl (fun _ => 0))), (q3, .inl (c4, dB, .inl (fun _ => 0))), (q5, .inl (c6, dC, .inl (fun _ => 0))), (q7, .inl (c8, dL, .inl (fun _ => 0))), (q9, .inl (c10, 8, .inr (.inl (fun _ => 0)))), (q11, .inr (7, [.null, .int 0]))] := hD
  refine W.widen (k := 6) (n := 2330) (by omega) (by omega) ?_
  refine lv_dup hx hb dX8_init_61 rfl ?_
  refine lv_iconst (v := 0) hx hb dX8_init_62 (by decide) ?_
  have hPc := hP.sub (ws' := [(q11, .inr (7, [.null, .int 0]))]) [7] rfl
  have hDc := hD.sub (ws' := [(q11, .inr (7, [.null, .int 0]))]) [7] (by decide) rfl
  have hKc := hK.sub (tys' := []) [] rfl
  have hFc := va_free (wc := [(q11, .inr (7, [.null, .int 0]))]) hD hS hA [7] rfl
  refine va_callv (va_runI (As := [.int 0]) (rest := [.ref q11, .ref h0]) (n := 1) (bytes := cX7_init) (maxL := 2) ⟨hx, hb, hml, hown, hts⟩ (ki_X7 l D q11 H.size 0 (by omega) ) ⟨callB_of 1 hts (q_good ci_X8_46.1) rfl rfl rfl (hts _ ci_X8_46.2.2.1) (hts _ ci_X8_46.2.1) ci_X8_46.2.2.2.2 ⟨Nat.le_of_ble_eq_true rfl, Nat.le_of_ble_eq_true rfl⟩, rfl, hts _ ci_X8_46i⟩ ⟨fun a U g mk q => by obtain ⟨q0, q1, qP, qK, qD⟩ := q; exact ⟨q0, q1, qP, va_K.moved (u := U) (U := U.calling g mk a) (Vm.Alike.refl U.vm) qK, qD⟩, fun U hU hW => ⟨rfl, by rw [hU], by rw [hU]; exact hPc, va_K.moved hW.alike hKc, hDc.weaken (fun _ _ _ _ => trivial)⟩⟩ rfl rfl hl.1 rfl (lv_room (Nat.le_of_ble_eq_true rfl)) dX8_init_63 ⟨Nat.le_of_ble_eq_true rfl, Nat.le_of_ble_eq_true rfl⟩) hS (fun q _ h => hFc q h) hFc (fun u t H1 locs ht hvm hw hB hz1 hk1 hS => ?_)
  obtain ⟨q12, c13, hP1, hK1, hD1⟩ := hB
  rw [ht] at hP1
  have hK1 := va_K.moved hvm.symm hK1
  obtain ⟨hP, hD⟩ := va_join (wr := [(h0, .inr (8, [.ref hd, .ref q1, .ref q5, .ref q7, .ref q3, .ref q9, .null, .int 0, .int 0, .int 0, .int 0, .int 0, .int 0, .int 0, .int 0])), (hd, .inr (2, [.int (nI dB), .int (nI dT), .int (nI dS), .int (nI dW), .int (nI dL), .int (nI dC), .ref qc, .ref ql, .int 1, .int (-1), .int 0, .int 0, .int 0, .int 0, .int 0])), (q1, .inl (c2, dB, .inl (fun _ => 0))), (q3, .inl (c4, dB, .inl (fun _ => 0))), (q5, .inl (c6, dC, .inl (fun _ => 0))), (q7, .inl (c8, dL, .inl (fun _ => 0))), (q9, .inl (c10, 8, .inr (.inl (fun _ => 0))))]) (w1 := [(q11, .inr (7, [.ref q12, .int 0])), (q12, .inl (c13, 0, .inl (fun _ => 0)))]) hP hD [7] [0, 1, 2, 3, 4, 5, 6] rfl rfl (by decide) (by decide) hk1 hFc hP1 hD1
  have hK := hK.app hK1
  generalize H1 = H at hP hS ⊢
  have hP : va_P D vwCl [(h0, .inr (8, [.ref hd, .ref q1, .ref q5, .ref q7, .ref q3, .ref q9, .null, .int 0, .int 0, .int 0, .int 0, .int 0, .int 0, .int 0, .int 0])), (hd, .inr (2, [.int (nI dB), .int (nI dT), .int (nI dS), .int (nI dW), .int (nI dL), .int (nI dC), .ref qc, .ref ql, .int 1, .int (-1), .int 0, .int 0, .int 0, .int 0, .int 0])), (q1, .inl (c2, dB, .inl (fun _ => 0))), (q3, .inl (c4, dB, .inl (fun _ => 0))), (q5, .inl (c6, dC, .inl (fun _ => 0))), (q7, .inl (c8, dL, .inl (fun _ => 0))), (q9, .inl (c10, 8, .inr (.inl (fun _ => 0)))), (q11, .inr (7, [.ref q12, .int 0])), (q12, .inl (c13, 0, .inl (fun _ => 0)))] H := hP
  have hD : va_D A [(h0, .inr (8, [.ref hd, .ref q1, .ref q5, .ref q7, .ref q3, .ref q9, .null, .int 0, .int 0, .int 0, .int 0, .int 0, .int 0, .int 0, .int 0])), (hd, .inr (2, [.int (nI dB), .int (nI dT), .int (nI dS), .int (nI dW), .int (nI dL), .int (nI dC), .ref qc, .ref ql, .int 1, .int (-1), .int 0, .int 0, .int 0, .int 0, .int 0])), (q1, .inl (c2, dB, .inl (fun _ => 0))), (q3, .inl (c4, dB, .inl (fun _ => 0))), (q5, .inl (c6, dC, .inl (fun _ => 0))), (q7, .inl (c8, dL, .inl (fun _ => 0))), (q9, .inl (c10, 8, .inr (.inl (fun _ => 0)))), (q11, .inr (7, [.ref q12, .int 0])), (q12, .inl (c13, 0, .inl (fun _ => 0)))] := hD
  have hK : va_K D vwCl [(c2, .int), (c4, .int), (c6, .int), (c8, .int), (c10, .long), (c13, .int)] s := hK
  refine W.widen (k := 7) (n := 3610) (by omega) (by omega) ?_
  refine va_putF (D := D) (ci := 8) (v := .ref q11) (ty := .object "ShingleHouse$Tape") (C := RX8) (T := TX8) (N := 15) hx hb hts inT_X8 tyX8 tyX8_ok nmX8 hown hK hP hD hS 0 rfl rfl 6 (by decide) (hts _ fl_X8_49) (fun _ h9 => h9) rfl hin rfl (by decide +kernel) rfl rfl (Nat.le_of_ble_eq_true rfl) dX8_init_66 (fun H locs hP hD hS => ?_)
  have hP : va_P D vwCl [(h0, .inr (8, [.ref hd, .ref q1, .ref q5, .ref q7, .ref q3, .ref q9, .ref q11, .int 0, .int 0, .int 0, .int 0, .int 0, .int 0, .int 0, .int 0])), (hd, .inr (2, [.int (nI dB), .int (nI dT), .int (nI dS), .int (nI dW), .int (nI dL), .int (nI dC), .ref qc, .ref ql, .int 1, .int (-1), .int 0, .int 0, .int 0, .int 0, .int 0])), (q1, .inl (c2, dB, .inl (fun _ => 0))), (q3, .inl (c4, dB, .inl (fun _ => 0))), (q5, .inl (c6, dC, .inl (fun _ => 0))), (q7, .inl (c8, dL, .inl (fun _ => 0))), (q9, .inl (c10, 8, .inr (.inl (fun _ => 0)))), (q11, .inr (7, [.ref q12, .int 0])), (q12, .inl (c13, 0, .inl (fun _ => 0)))] H := hP
  have hD : va_D A [(h0, .inr (8, [.ref hd, .ref q1, .ref q5, .ref q7, .ref q3, .ref q9, .ref q11, .int 0, .int 0, .int 0, .int 0, .int 0, .int 0, .int 0, .int 0])), (hd, .inr (2, [.int (nI dB), .int (nI dT), .int (nI dS), .int (nI dW), .int (nI dL), .int (nI dC), .ref qc, .ref ql, .int 1, .int (-1), .int 0, .int 0, .int 0, .int 0, .int 0])), (q1, .inl (c2, dB, .inl (fun _ => 0))), (q3, .inl (c4, dB, .inl (fun _ => 0))), (q5, .inl (c6, dC, .inl (fun _ => 0))), (q7, .inl (c8, dL, .inl (fun _ => 0))), (q9, .inl (c10, 8, .inr (.inl (fun _ => 0)))), (q11, .inr (7, [.ref q12, .int 0])), (q12, .inl (c13, 0, .inl (fun _ => 0)))] := hD
  refine lv_aload_n hx hb dX8_init_69 rfl (lv_at hl 0 rfl) ?_
  refine va_get (D := D) (ci := 8) (v := .ref q7) (C := RX8) (T := TX8) (N := 15) hx hb hts inT_X8 hown hK hP 0 rfl rfl 3 (by decide) (hts _ fl_X8_37) (fun _ h9 => h9) rfl dX8_init_70 ?_
  refine lv_iconst (v := (-1)) hx hb dX8_init_73 (by decide) ?_
  have hPc : va_P D vwCl (ag_W (fun _ => q7) (fun _ => c8) (fun _ => dL) q_z) H := hP.sub (ws' := [(q7, .inl (c8, dL, .inl (fun _ => 0)))]) [5] rfl
  have hKc : va_K D vwCl (ag_T (fun _ => c8)) s := hK.sub (tys' := [(c8, .int)]) [3] rfl
  have hDs := hD.sub (ws' := [(q7, .inl (c8, dL, .inl (fun _ => 0)))]) [5] (by decide) rfl
  have hDc : ∀ σ, va_D (ag_A (fun _ => q7)) (ag_W (fun _ => q7) (fun _ => c8) (fun _ => dL) σ) := fun σ => q_Dself (a := fun _ => q7) (n := 1) hDs rfl rfl
  have hFc : ∀ q, ag_A (fun _ => q7) q → A q := q_Ain (a := fun _ => q7) (n := 1) hDs rfl
  have hS0 := hS
  refine va_callv (va_runS (As := [.ref q7, .int (-1)]) (rest := []) (n := 2) (bytes := cJ7_fill_53178) (maxL := 4) ⟨hx, hb, hml, hown, hts⟩ (kt_G7_fill (a := fun _ => q7) (cI := fun _ => c8) (L := fun _ => dL) (D := D) hDc hfill) ⟨callB_of 2 hts (q_good cw_X8_53.1.1) rfl rfl rfl (hts _ cw_X8_53.1.2.2.1) (hts _ cw_X8_53.1.2.1) cw_X8_53.1.2.2.2.2 ⟨Nat.le_of_ble_eq_true rfl, Nat.le_of_ble_eq_true rfl⟩, hts _ cw_X8_53.2⟩ ⟨q_blind, fun U hU hW => ⟨rfl, by rw [hU]; exact hPc, va_K.moved hW.alike hKc⟩⟩ rfl rfl hl.1 rfl (lv_room (Nat.le_of_ble_eq_true rfl)) dX8_init_74 ⟨Nat.le_of_ble_eq_true rfl, Nat.le_of_ble_eq_true rfl⟩) hS (fun q _ h => hFc q h) hFc (fun u t H1 locs ht hvm hw hB hz1 hk1 hS => ?_)
  rw [hw] at hB
  have hP1 : va_P D vwCl [(q7, .inl (c8, dL, .inl lat1))] t.heap := hB
  rw [ht] at hP1
  obtain ⟨hP, hD⟩ := va_join (wc := [(q7, .inl (c8, dL, .inl (fun _ => 0)))]) (wr := [(h0, .inr (8, [.ref hd, .ref q1, .ref q5, .ref q7, .ref q3, .ref q9, .ref q11, .int 0, .int 0, .int 0, .int 0, .int 0, .int 0, .int 0, .int 0])), (hd, .inr (2, [.int (nI dB), .int (nI dT), .int (nI dS), .int (nI dW), .int (nI dL), .int (nI dC), .ref qc, .ref ql, .int 1, .int (-1), .int 0, .int 0, .int 0, .int 0, .int 0])), (q1, .inl (c2, dB, .inl (fun _ => 0))), (q3, .inl (c4, dB, .inl (fun _ => 0))), (q5, .inl (c6, dC, .inl (fun _ => 0))), (q9, .inl (c10, 8, .inr (.inl (fun _ => 0)))), (q11, .inr (7, [.ref q12, .int 0])), (q12, .inl (c13, 0, .inl (fun _ => 0)))]) (w1 := [(q7, .inl (c8, dL, .inl lat1))]) hP hD [5] [0, 1, 2, 3, 4, 6, 7, 8] rfl rfl (by decide) (by decide) (fun q h1 h2 => hk1 q h1 (fun h3 => h2 (q_AinA (a := fun _ => q7) (n := 1) rfl q h3))) (va_free (wc := [(q7, .inl (c8, dL, .inl (fun _ => 0)))]) hD hS0 hA [5] rfl) hP1 (q_D1 hDs rfl)
  generalize H1 = H at hP hS ⊢
  have hP : va_P D vwCl [(h0, .inr (8, [.ref hd, .ref q1, .ref q5, .ref q7, .ref q3, .ref q9, .ref q11, .int 0, .int 0, .int 0, .int 0, .int 0, .int 0, .int 0, .int 0])), (hd, .inr (2, [.int (nI dB), .int (nI dT), .int (nI dS), .int (nI dW), .int (nI dL), .int (nI dC), .ref qc, .ref ql, .int 1, .int (-1), .int 0, .int 0, .int 0, .int 0, .int 0])), (q1, .inl (c2, dB, .inl (fun _ => 0))), (q3, .inl (c4, dB, .inl (fun _ => 0))), (q5, .inl (c6, dC, .inl (fun _ => 0))), (q9, .inl (c10, 8, .inr (.inl (fun _ => 0)))), (q11, .inr (7, [.ref q12, .int 0])), (q12, .inl (c13, 0, .inl (fun _ => 0))), (q7, .inl (c8, dL, .inl lat1))] H := hP
  have hD : va_D A [(h0, .inr (8, [.ref hd, .ref q1, .ref q5, .ref q7, .ref q3, .ref q9, .ref q11, .int 0, .int 0, .int 0, .int 0, .int 0, .int 0, .int 0, .int 0])), (hd, .inr (2, [.int (nI dB), .int (nI dT), .int (nI dS), .int (nI dW), .int (nI dL), .int (nI dC), .ref qc, .ref ql, .int 1, .int (-1), .int 0, .int 0, .int 0, .int 0, .int 0])), (q1, .inl (c2, dB, .inl (fun _ => 0))), (q3, .inl (c4, dB, .inl (fun _ => 0))), (q5, .inl (c6, dC, .inl (fun _ => 0))), (q9, .inl (c10, 8, .inr (.inl (fun _ => 0)))), (q11, .inr (7, [.ref q12, .int 0])), (q12, .inl (c13, 0, .inl (fun _ => 0))), (q7, .inl (c8, dL, .inl lat1))] := hD
  refine W.widen (k := 7) (n := 3610) (by omega) (by omega) ?_
  refine lv_aload_n hx hb dX8_init_77 rfl (lv_at hl 0 rfl) ?_
  refine lv_iconst (v := (-1)) hx hb dX8_init_78 (by decide) ?_
  refine va_put (D := D) (ci := 8) (v := .int (-1)) (ty := .int) (C := RX8) (T := TX8) (N := 15) hx hb hts inT_X8 tyX8 tyX8_ok nmX8 hown hK hP hD hS 0 rfl rfl 9 (by decide) (hts _ fl_X8_59) (fun _ h9 => h9) rfl (by decide +kernel) rfl rfl (Nat.le_of_ble_eq_true rfl) dX8_init_79 (fun H locs hP hD hS => ?_)
  have hP : va_P D vwCl [(h0, .inr (8, [.ref hd, .ref q1, .ref q5, .ref q7, .ref q3, .ref q9, .ref q11, .int 0, .int 0, .int (-1), .int 0, .int 0, .int 0, .int 0, .int 0])), (hd, .inr (2, [.int (nI dB), .int (nI dT), .int (nI dS), .int (nI dW), .int (nI dL), .int (nI dC), .ref qc, .ref ql, .int 1, .int (-1), .int 0, .int 0, .int 0, .int 0, .int 0])), (q1, .inl (c2, dB, .inl (fun _ => 0))), (q3, .inl (c4, dB, .inl (fun _ => 0))), (q5, .inl (c6, dC, .inl (fun _ => 0))), (q9, .inl (c10, 8, .inr (.inl (fun _ => 0)))), (q11, .inr (7, [.ref q12, .int 0])), (q12, .inl (c13, 0, .inl (fun _ => 0))), (q7, .inl (c8, dL, .inl lat1))] H := hP
  have hD : va_D A [(h0, .inr (8, [.ref hd, .ref q1, .ref q5, .ref q7, .ref q3, .ref q9, .ref q11, .int 0, .int 0, .int (-1), .int 0, .int 0, .int 0, .int 0, .int 0])), (hd, .inr (2, [.int (nI dB), .int (nI dT), .int (nI dS), .int (nI dW), .int (nI dL), .int (nI dC), .ref qc, .ref ql, .int 1, .int (-1), .int 0, .int 0, .int 0, .int 0, .int 0])), (q1, .inl (c2, dB, .inl (fun _ => 0))), (q3, .inl (c4, dB, .inl (fun _ => 0))), (q5, .inl (c6, dC, .inl (fun _ => 0))), (q9, .inl (c10, 8, .inr (.inl (fun _ => 0)))), (q11, .inr (7, [.ref q12, .int 0])), (q12, .inl (c13, 0, .inl (fun _ => 0))), (q7, .inl (c8, dL, .inl lat1))] := hD
  refine lv_aload_n hx hb dX8_init_82 rfl (lv_at hl 0 rfl) ?_
  refine lv_iconst (v := (-1)) hx hb dX8_init_83 (by decide) ?_
  refine va_put (D := D) (ci := 8) (v := .int (-1)) (ty := .int) (C := RX8) (T := TX8) (N := 15) hx hb hts inT_X8 tyX8 tyX8_ok nmX8 hown hK hP hD hS 0 rfl rfl 13 (by decide) (hts _ fl_X8_62) (fun _ h9 => h9) rfl (by decide +kernel) rfl rfl (Nat.le_of_ble_eq_true rfl) dX8_init_84 (fun H locs hP hD hS => ?_)
  have hP : va_P D vwCl [(h0, .inr (8, [.ref hd, .ref q1, .ref q5, .ref q7, .ref q3, .ref q9, .ref q11, .int 0, .int 0, .int (-1), .int 0, .int 0, .int 0, .int (-1), .int 0])), (hd, .inr (2, [.int (nI dB), .int (nI dT), .int (nI dS), .int (nI dW), .int (nI dL), .int (nI dC), .ref qc, .ref ql, .int 1, .int (-1), .int 0, .int 0, .int 0, .int 0, .int 0])), (q1, .inl (c2, dB, .inl (fun _ => 0))), (q3, .inl (c4, dB, .inl (fun _ => 0))), (q5, .inl (c6, dC, .inl (fun _ => 0))), (q9, .inl (c10, 8, .inr (.inl (fun _ => 0)))), (q11, .inr (7, [.ref q12, .int 0])), (q12, .inl (c13, 0, .inl (fun _ => 0))), (q7, .inl (c8, dL, .inl lat1))] H := hP
  have hD : va_D A [(h0, .inr (8, [.ref hd, .ref q1, .ref q5, .ref q7, .ref q3, .ref q9, .ref q11, .int 0, .int 0, .int (-1), .int 0, .int 0, .int 0, .int (-1), .int 0])), (hd, .inr (2, [.int (nI dB), .int (nI dT), .int (nI dS), .int (nI dW), .int (nI dL), .int (nI dC), .ref qc, .ref ql, .int 1, .int (-1), .int 0, .int 0, .int 0, .int 0, .int 0])), (q1, .inl (c2, dB, .inl (fun _ => 0))), (q3, .inl (c4, dB, .inl (fun _ => 0))), (q5, .inl (c6, dC, .inl (fun _ => 0))), (q9, .inl (c10, 8, .inr (.inl (fun _ => 0)))), (q11, .inr (7, [.ref q12, .int 0])), (q12, .inl (c13, 0, .inl (fun _ => 0))), (q7, .inl (c8, dL, .inl lat1))] := hD
  have hK9 := hK.sub (tys' := [(c2, .int), (c4, .int), (c6, .int), (c8, .int), (c10, .long), (c13, .int)]) [0, 1, 2, 3, 4, 5] rfl
  refine W.widen (k := 7) (n := 3610) (by omega) (by omega) ?_
  exact W.vret hx hb hr (fun t ht hW => ⟨⟨(), rfl, trivial, q1, q3, q5, q9, q11, q12, q7, c2, c4, c6, c8, c10, c13, by rw [ht]; exact hP, va_K.moved hW.alike hK9, hD⟩, hS.F ht⟩) hS.2.2 dX8_init_87
set_option maxHeartbeats 4000000 in
set_option maxRecDepth 100000 in
theorem ki_X6 (l : Launch) (D : va_G) (h0 sz : Nat) (hd : Nat) (hv : Nat) (dB : Nat) (dT : Nat) (dS : Nat) (dW : Nat) (dL : Nat) (dC : Nat) (qc : Nat) (ql : Nat) (hh0 : dL ≤ 2048) : Met l yX6_init (Cond.code yX6_init cX6_init 3 none :: q_T) ({ frames := 1, cells := 4, slots := 20488, locals := 12 } : Room) (va_Pc [.ref h0, .ref hd, .ref hv] (fun U => U.heap.size = sz ∧ va_P D vwCl [(h0, .inr (6, [.null, .null, .null, .null, .null, .null, .int 0, .int 0, .int 0])), (hd, .inr (2, [.int (nI dB), .int (nI dT), .int (nI dS), .int (nI dW), .int (nI dL), .int (nI dC), .ref qc, .ref ql, .int 1, .int (-1), .int 0, .int 0, .int 0, .int 0, .int 0]))] U.heap ∧ va_K D vwCl [] U ∧ va_D (fun _ => True) [(h0, .inr (6, [.null, .null, .null, .null, .null, .null, .int 0, .int 0, .int 0])), (hd, .inr (2, [.int (nI dB), .int (nI dT), .int (nI dS), .int (nI dW), .int (nI dL), .int (nI dC), .ref qc, .ref ql, .int 1, .int (-1), .int 0, .int 0, .int 0, .int 0, .int 0]))])) (va_Qv (fun _ : Unit => True) (fun _ t => ∃ (q1 : Nat) (q3 : Nat) (q5 : Nat) (q7 : Nat) (c2 : ClassId) (c4 : ClassId) (c6 : ClassId) (c8 : ClassId), va_P D vwCl [(h0, .inr (6, [.ref hd, .ref hv, .ref q1, .ref q3, .ref q5, .ref q7, .int 0, .int 0, .int 0])), (hd, .inr (2, [.int (nI dB), .int (nI dT), .int (nI dS), .int (nI dW), .int (nI dL), .int (nI dC), .ref qc, .ref ql, .int 1, .int (-1), .int 0, .int 0, .int 0, .int 0, .int 0])), (q1, .inl (c2, (dL * 8), .inr (.inl (fun _ => 0)))), (q3, .inl (c4, dL, .inl (fun _ => 0))), (q5, .inl (c6, dL, .inl (fun _ => 0))), (q7, .inl (c8, 8, .inr (.inl (fun _ => 0))))] t.heap ∧ va_K D vwCl [(c2, .long), (c4, .boolean), (c6, .int), (c8, .long)] t ∧ va_D (va_A [(h0, .inr (6, [.null, .null, .null, .null, .null, .null, .int 0, .int 0, .int 0])), (hd, .inr (2, [.int (nI dB), .int (nI dT), .int (nI dS), .int (nI dW), .int (nI dL), .int (nI dC), .ref qc, .ref ql, .int 1, .int (-1), .int 0, .int 0, .int 0, .int 0, .int 0]))] sz) [(h0, .inr (6, [.ref hd, .ref hv, .ref q1, .ref q3, .ref q5, .ref q7, .int 0, .int 0, .int 0])), (hd, .inr (2, [.int (nI dB), .int (nI dT), .int (nI dS), .int (nI dW), .int (nI dL), .int (nI dC), .ref qc, .ref ql, .int 1, .int (-1), .int 0, .int 0, .int 0, .int 0, .int 0])), (q1, .inl (c2, (dL * 8), .inr (.inl (fun _ => 0)))), (q3, .inl (c4, dL, .inl (fun _ => 0))), (q5, .inl (c6, dL, .inl (fun _ => 0))), (q7, .inl (c8, 8, .inr (.inl (fun _ => 0))))]) (va_A [(h0, .inr (6, [.null, .null, .null, .null, .null, .null, .int 0, .int 0, .int 0])), (hd, .inr (2, [.int (nI dB), .int (nI dT), .int (nI dS), .int (nI dW), .int (nI dL), .int (nI dC), .ref qc, .ref ql, .int 1, .int (-1), .int 0, .int 0, .int 0, .int 0, .int 0]))] sz)) 4 20488 (va_A [(h0, .inr (6, [.null, .null, .null, .null, .null, .null, .int 0, .int 0, .int 0])), (hd, .inr (2, [.int (nI dB), .int (nI dT), .int (nI dS), .int (nI dW), .int (nI dL), .int (nI dC), .ref qc, .ref ql, .int 1, .int (-1), .int 0, .int 0, .int 0, .int 0, .int 0]))] sz) := by
  refine Met.ofW (cc := cX6_init) (maxL := 3) (ret := none) (by decide) rfl ?_
  intro p e s m args below meth c s₁ Bd hml hv
  obtain ⟨rfl, hsz, hP, hK, hD0⟩ := hv
  have hx := Bd.exec
  have hb := Bd.bytes
  have hr := Bd.returns
  have hts := q_ts (atoms_spec (ws := Cond.code yX6_init cX6_init 3 none :: q_T) Bd.pre)
  have hown : s.vm.findClass RX6 = some m.cls := findClass_of_methodNamed Bd.named
  have hlocks := Bd.notSynchronized
  have hin : meth.name = "<init>" := (name_of_methodNamed Bd.named Bd.method).1
  subst hsz
  have hD := hD0.self (sz := s.heap.size)
  generalize hAe : va_A [(h0, .inr (6, [.null, .null, .null, .null, .null, .null, .int 0, .int 0, .int 0])), (hd, .inr (2, [.int (nI dB), .int (nI dT), .int (nI dS), .int (nI dW), .int (nI dL), .int (nI dC), .ref qc, .ref ql, .int 1, .int (-1), .int 0, .int 0, .int 0, .int 0, .int 0]))] s.heap.size = A at hD ⊢
  have hA : ∀ q : Nat, s.heap.size ≤ q → A q := fun q h => by rw [← hAe]; exact Or.inr h
  have hS : va_S A s.heap s.heap [] := va_S.rf
  have hl := lv_entry ([.ref h0, .ref hd, .ref hv]) (n := 3) (Nat.le_of_ble_eq_true rfl)
  rw [lg_entry_eq]
  generalize (lg_sl ([.ref h0, .ref hd, .ref hv]) ++ List.replicate (3 - (lg_sl ([.ref h0, .ref hd, .ref hv])).length) Slot.unset).toArray = ls at hl ⊢
  have hl : lv_has ls 3 [(0, .ref h0), (1, .ref hd), (2, .ref hv)] := hl
  refine lv_aload_n hx hb dX6_init_0 rfl (lv_at hl 0 rfl) ?_
  refine W.objInit hx hb hown (hts _ ol_X6_3) (hts _ oi_i) (hts _ oi_c) rfl (by rw [hml]; exact hl.1) rfl dX6_init_1 (Nat.le_of_ble_eq_true rfl) (Nat.le_of_ble_eq_true rfl) ?_
  refine W.eq (g2 := F0 m 4 ls []) rfl ?_
  refine lv_aload_n hx hb dX6_init_4 rfl (lv_at hl 0 rfl) ?_
  refine lv_aload_n hx hb dX6_init_5 rfl (lv_at hl 1 rfl) ?_
  refine va_putF (D := D) (ci := 6) (v := .ref hd) (ty := .object "ShingleHouse$Disk") (C := RX6) (T := TX6) (N := 9) hx hb hts inT_X6 tyX6 tyX6_ok nmX6 hown hK hP hD hS 0 rfl rfl 0 (by decide) (hts _ fl_X6_9) (fun _ h9 => h9) rfl hin rfl (by decide +kernel) rfl rfl (Nat.le_of_ble_eq_true rfl) dX6_init_6 (fun H locs hP hD hS => ?_)
  have hP : va_P D vwCl [(h0, .inr (6, [.ref hd, .null, .null, .null, .null, .null, .int 0, .int 0, .int 0])), (hd, .inr (2, [.int (nI dB), .int (nI dT), .int (nI dS), .int (nI dW), .int (nI dL), .int (nI dC), .ref qc, .ref ql, .int 1, .int (-1), .int 0, .int 0, .int 0, .int 0, .int 0]))] H := hP
  have hD : va_D A [(h0, .inr (6, [.ref hd, .null, .null, .null, .null, .null, .int 0, .int 0, .int 0])), (hd, .inr (2, [.int (nI dB), .int (nI dT), .int (nI dS), .int (nI dW), .int (nI dL), .int (nI dC), .ref qc, .ref ql, .int 1, .int (-1), .int 0, .int 0, .int 0, .int 0, .int 0]))] := hD
  refine lv_aload_n hx hb dX6_init_9 rfl (lv_at hl 0 rfl) ?_
  refine lv_aload_n hx hb dX6_init_10 rfl (lv_at hl 2 rfl) ?_
  refine va_putF (D := D) (ci := 6) (v := .ref hv) (ty := .object "ShingleHouse$Volume") (C := RX6) (T := TX6) (N := 9) hx hb hts inT_X6 tyX6 tyX6_ok nmX6 hown hK hP hD hS 0 rfl rfl 1 (by decide) (hts _ fl_X6_15) (fun _ h9 => h9) rfl hin rfl (by decide +kernel) rfl rfl (Nat.le_of_ble_eq_true rfl) dX6_init_11 (fun H locs hP hD hS => ?_)
  have hP : va_P D vwCl [(h0, .inr (6, [.ref hd, .ref hv, .null, .null, .null, .null, .int 0, .int 0, .int 0])), (hd, .inr (2, [.int (nI dB), .int (nI dT), .int (nI dS), .int (nI dW), .int (nI dL), .int (nI dC), .ref qc, .ref ql, .int 1, .int (-1), .int 0, .int 0, .int 0, .int 0, .int 0]))] H := hP
  have hD : va_D A [(h0, .inr (6, [.ref hd, .ref hv, .null, .null, .null, .null, .int 0, .int 0, .int 0])), (hd, .inr (2, [.int (nI dB), .int (nI dT), .int (nI dS), .int (nI dW), .int (nI dL), .int (nI dC), .ref qc, .ref ql, .int 1, .int (-1), .int 0, .int 0, .int 0, .int 0, .int 0]))] := hD
  refine lv_aload_n hx hb dX6_init_14 rfl (lv_at hl 0 rfl) ?_
  refine lv_aload_n hx hb dX6_init_15 rfl (lv_at hl 1 rfl) ?_
  refine va_get (D := D) (ci := 2) (v := .int (nI dL)) (C := RX2) (T := TX2) (N := 15) hx hb hts inT_X2 hown hK hP 1 rfl rfl 4 (by decide) (hts _ fl_X6_19) (fun _ h9 => h9) rfl dX6_init_16 ?_
  refine lv_bipush (v := 8) hx hb dX6_init_19 (by decide) ?_
  refine lv_imul hx hb dX6_init_21 ?_
  rw [show nI dL * (8 : Int32) = nI (dL * 8) from pk_mul dL 8]
  have hbd0 : dL * 8 ≤ 16384 := by omega
  refine va_newa (atype := .long) (ty := .long) (N' := dL * 8) (a0 := (dL * 8, .inr (.inl (fun _ => 0)))) hx hb (hts _ ac_long) rfl hK hP hD hS hA (fun _ => rfl) (nI_pos (n := dL * 8) (Nat.lt_of_le_of_lt hbd0 (by decide))) (nI_clamp (n := dL * 8) (Nat.lt_of_le_of_lt hbd0 (by decide))) (Nat.le_trans (Nat.mul_le_mul_right _ hbd0) (by decide)) (Nat.le_of_ble_eq_true rfl) (Nat.le_trans (Nat.add_le_add_left hbd0 _) (Nat.le_of_ble_eq_true rfl)) dX6_init_22 (fun q1 c2 H hK hP hD hS => ?_)
  have hP : va_P D vwCl [(h0, .inr (6, [.ref hd, .ref hv, .null, .null, .null, .null, .int 0, .int 0, .int 0])), (hd, .inr (2, [.int (nI dB), .int (nI dT), .int (nI dS), .int (nI dW), .int (nI dL), .int (nI dC), .ref qc, .ref ql, .int 1, .int (-1), .int 0, .int 0, .int 0, .int 0, .int 0])), (q1, .inl (c2, (dL * 8), .inr (.inl (fun _ => 0))))] H := hP
  have hD : va_D A [(h0, .inr (6, [.ref hd, .ref hv, .null, .null, .null, .null, .int 0, .int 0, .int 0])), (hd, .inr (2, [.int (nI dB), .int (nI dT), .int (nI dS), .int (nI dW), .int (nI dL), .int (nI dC), .ref qc, .ref ql, .int 1, .int (-1), .int 0, .int 0, .int 0, .int 0, .int 0])), (q1, .inl (c2, (dL * 8), .inr (.inl (fun _ => 0))))] := hD
  have hK : va_K D vwCl [(c2, .long)] s := hK
  refine W.widen (k := 1) (n := 16384) (by omega) (by omega) ?_
  refine va_putF (D := D) (ci := 6) (v := .ref q1) (ty := .array .long) (C := RX6) (T := TX6) (N := 9) hx hb hts inT_X6 tyX6 tyX6_ok nmX6 hown hK hP hD hS 0 rfl rfl 2 (by decide) (hts _ fl_X6_25) (fun _ h9 => h9) rfl hin rfl (by decide +kernel) rfl rfl (Nat.le_of_ble_eq_true rfl) dX6_init_24 (fun H locs hP hD hS => ?_)
  have hP : va_P D vwCl [(h0, .inr (6, [.ref hd, .ref hv, .ref q1, .null, .null, .null, .int 0, .int 0, .int 0])), (hd, .inr (2, [.int (nI dB), .int (nI dT), .int (nI dS), .int (nI dW), .int (nI dL), .int (nI dC), .ref qc, .ref ql, .int 1, .int (-1), .int 0, .int 0, .int 0, .int 0, .int 0])), (q1, .inl (c2, (dL * 8), .inr (.inl (fun _ => 0))))] H := hP
  have hD : va_D A [(h0, .inr (6, [.ref hd, .ref hv, .ref q1, .null, .null, .null, .int 0, .int 0, .int 0])), (hd, .inr (2, [.int (nI dB), .int (nI dT), .int (nI dS), .int (nI dW), .int (nI dL), .int (nI dC), .ref qc, .ref ql, .int 1, .int (-1), .int 0, .int 0, .int 0, .int 0, .int 0])), (q1, .inl (c2, (dL * 8), .inr (.inl (fun _ => 0))))] := hD
  refine lv_aload_n hx hb dX6_init_27 rfl (lv_at hl 0 rfl) ?_
  refine lv_aload_n hx hb dX6_init_28 rfl (lv_at hl 1 rfl) ?_
  refine va_get (D := D) (ci := 2) (v := .int (nI dL)) (C := RX2) (T := TX2) (N := 15) hx hb hts inT_X2 hown hK hP 1 rfl rfl 4 (by decide) (hts _ fl_X6_19) (fun _ h9 => h9) rfl dX6_init_29 ?_
  have hbd1 : dL ≤ 2048 := by omega
  refine va_newa (atype := .boolean) (ty := .boolean) (N' := dL) (a0 := (dL, .inl (fun _ => 0))) hx hb (hts _ ac_boolean) rfl hK hP hD hS hA (fun _ => rfl) (nI_pos (n := dL) (Nat.lt_of_le_of_lt hbd1 (by decide))) (nI_clamp (n := dL) (Nat.lt_of_le_of_lt hbd1 (by decide))) (Nat.le_trans (Nat.mul_le_mul_right _ hbd1) (by decide)) (Nat.le_of_ble_eq_true rfl) (Nat.le_trans (Nat.add_le_add_left hbd1 _) (Nat.le_of_ble_eq_true rfl)) dX6_init_32 (fun q3 c4 H hK hP hD hS => ?_)
  have hP : va_P D vwCl [(h0, .inr (6, [.ref hd, .ref hv, .ref q1, .null, .null, .null, .int 0, .int 0, .int 0])), (hd, .inr (2, [.int (nI dB), .int (nI dT), .int (nI dS), .int (nI dW), .int (nI dL), .int (nI dC), .ref qc, .ref ql, .int 1, .int (-1), .int 0, .int 0, .int 0, .int 0, .int 0])), (q1, .inl (c2, (dL * 8), .inr (.inl (fun _ => 0)))), (q3, .inl (c4, dL, .inl (fun _ => 0)))] H := hP
  have hD : va_D A [(h0, .inr (6, [.ref hd, .ref hv, .ref q1, .null, .null, .null, .int 0, .int 0, .int 0])), (hd, .inr (2, [.int (nI dB), .int (nI dT), .int (nI dS), .int (nI dW), .int (nI dL), .int (nI dC), .ref qc, .ref ql, .int 1, .int (-1), .int 0, .int 0, .int 0, .int 0, .int 0])), (q1, .inl (c2, (dL * 8), .inr (.inl (fun _ => 0)))), (q3, .inl (c4, dL, .inl (fun _ => 0)))] := hD
  have hK : va_K D vwCl [(c2, .long), (c4, .boolean)] s := hK
  refine W.widen (k := 2) (n := 18432) (by omega) (by omega) ?_
  refine va_putF (D := D) (ci := 6) (v := .ref q3) (ty := .array .boolean) (C := RX6) (T := TX6) (N := 9) hx hb hts inT_X6 tyX6 tyX6_ok nmX6 hown hK hP hD hS 0 rfl rfl 3 (by decide) (hts _ fl_X6_29) (fun _ h9 => h9) rfl hin rfl (by decide +kernel) rfl rfl (Nat.le_of_ble_eq_true rfl) dX6_init_34 (fun H locs hP hD hS => ?_)
  have hP : va_P D vwCl [(h0, .inr (6, [.ref hd, .ref hv, .ref q1, .ref q3, .null, .null, .int 0, .int 0, .int 0])), (hd, .inr (2, [.int (nI dB), .int (nI dT), .int (nI dS), .int (nI dW), .int (nI dL), .int (nI dC), .ref qc, .ref ql, .int 1, .int (-1), .int 0, .int 0, .int 0, .int 0, .int 0])), (q1, .inl (c2, (dL * 8), .inr (.inl (fun _ => 0)))), (q3, .inl (c4, dL, .inl (fun _ => 0)))] H := hP
  have hD : va_D A [(h0, .inr (6, [.ref hd, .ref hv, .ref q1, .ref q3, .null, .null, .int 0, .int 0, .int 0])), (hd, .inr (2, [.int (nI dB), .int (nI dT), .int (nI dS), .int (nI dW), .int (nI dL), .int (nI dC), .ref qc, .ref ql, .int 1, .int (-1), .int 0, .int 0, .int 0, .int 0, .int 0])), (q1, .inl (c2, (dL * 8), .inr (.inl (fun _ => 0)))), (q3, .inl (c4, dL, .inl (fun _ => 0)))] := hD
  refine lv_aload_n hx hb dX6_init_37 rfl (lv_at hl 0 rfl) ?_
  refine lv_aload_n hx hb dX6_init_38 rfl (lv_at hl 1 rfl) ?_
  refine va_get (D := D) (ci := 2) (v := .int (nI dL)) (C := RX2) (T := TX2) (N := 15) hx hb hts inT_X2 hown hK hP 1 rfl rfl 4 (by decide) (hts _ fl_X6_19) (fun _ h9 => h9) rfl dX6_init_39 ?_
  have hbd2 : dL ≤ 2048 := by omega
  refine va_newa (atype := .int) (ty := .int) (N' := dL) (a0 := (dL, .inl (fun _ => 0))) hx hb (hts _ ac_int) rfl hK hP hD hS hA (fun _ => rfl) (nI_pos (n := dL) (Nat.lt_of_le_of_lt hbd2 (by decide))) (nI_clamp (n := dL) (Nat.lt_of_le_of_lt hbd2 (by decide))) (Nat.le_trans (Nat.mul_le_mul_right _ hbd2) (by decide)) (Nat.le_of_ble_eq_true rfl) (Nat.le_trans (Nat.add_le_add_left hbd2 _) (Nat.le_of_ble_eq_true rfl)) dX6_init_42 (fun q5 c6 H hK hP hD hS => ?_)
  have hP : va_P D vwCl [(h0, .inr (6, [.ref hd, .ref hv, .ref q1, .ref q3, .null, .null, .int 0, .int 0, .int 0])), (hd, .inr (2, [.int (nI dB), .int (nI dT), .int (nI dS), .int (nI dW), .int (nI dL), .int (nI dC), .ref qc, .ref ql, .int 1, .int (-1), .int 0, .int 0, .int 0, .int 0, .int 0])), (q1, .inl (c2, (dL * 8), .inr (.inl (fun _ => 0)))), (q3, .inl (c4, dL, .inl (fun _ => 0))), (q5, .inl (c6, dL, .inl (fun _ => 0)))] H := hP
  have hD : va_D A [(h0, .inr (6, [.ref hd, .ref hv, .ref q1, .ref q3, .null, .null, .int 0, .int 0, .int 0])), (hd, .inr (2, [.int (nI dB), .int (nI dT), .int (nI dS), .int (nI dW), .int (nI dL), .int (nI dC), .ref qc, .ref ql, .int 1, .int (-1), .int 0, .int 0, .int 0, .int 0, .int 0])), (q1, .inl (c2, (dL * 8), .inr (.inl (fun _ => 0)))), (q3, .inl (c4, dL, .inl (fun _ => 0))), (q5, .inl (c6, dL, .inl (fun _ => 0)))] := hD
  have hK : va_K D vwCl [(c2, .long), (c4, .boolean), (c6, .int)] s := hK
  refine W.widen (k := 3) (n := 20480) (by omega) (by omega) ?_
  refine va_putF (D := D) (ci := 6) (v := .ref q5) (ty := .array .int) (C := RX6) (T := TX6) (N := 9) hx hb hts inT_X6 tyX6 tyX6_ok nmX6 hown hK hP hD hS 0 rfl rfl 4 (by decide) (hts _ fl_X6_33) (fun _ h9 => h9) rfl hin rfl (by decide +kernel) rfl rfl (Nat.le_of_ble_eq_true rfl) dX6_init_44 (fun H locs hP hD hS => ?_)
  have hP : va_P D vwCl [(h0, .inr (6, [.ref hd, .ref hv, .ref q1, .ref q3, .ref q5, .null, .int 0, .int 0, .int 0])), (hd, .inr (2, [.int (nI dB), .int (nI dT), .int (nI dS), .int (nI dW), .int (nI dL), .int (nI dC), .ref qc, .ref ql, .int 1, .int (-1), .int 0, .int 0, .int 0, .int 0, .int 0])), (q1, .inl (c2, (dL * 8), .inr (.inl (fun _ => 0)))), (q3, .inl (c4, dL, .inl (fun _ => 0))), (q5, .inl (c6, dL, .inl (fun _ => 0)))] H := hP
  have hD : va_D A [(h0, .inr (6, [.ref hd, .ref hv, .ref q1, .ref q3, .ref q5, .null, .int 0, .int 0, .int 0])), (hd, .inr (2, [.int (nI dB), .int (nI dT), .int (nI dS), .int (nI dW), .int (nI dL), .int (nI dC), .ref qc, .ref ql, .int 1, .int (-1), .int 0, .int 0, .int 0, .int 0, .int 0])), (q1, .inl (c2, (dL * 8), .inr (.inl (fun _ => 0)))), (q3, .inl (c4, dL, .inl (fun _ => 0))), (q5, .inl (c6, dL, .inl (fun _ => 0)))] := hD
  refine lv_aload_n hx hb dX6_init_47 rfl (lv_at hl 0 rfl) ?_
  refine lv_bipush (v := 8) hx hb dX6_init_48 (by decide) ?_
  refine va_newa (atype := .long) (ty := .long) (N' := 8) (a0 := (8, .inr (.inl (fun _ => 0)))) hx hb (hts _ ac_long) rfl hK hP hD hS hA (fun _ => rfl) (by decide) (by decide) (by decide) (Nat.le_of_ble_eq_true rfl) (Nat.le_of_ble_eq_true rfl) dX6_init_50 (fun q7 c8 H hK hP hD hS => ?_)
  have hP : va_P D vwCl [(h0, .inr (6, [.ref hd, .ref hv, .ref q1, .ref q3, .ref q5, .null, .int 0, .int 0, .int 0])), (hd, .inr (2, [.int (nI dB), .int (nI dT), .int (nI dS), .int (nI dW), .int (nI dL), .int (nI dC), .ref qc, .ref ql, .int 1, .int (-1), .int 0, .int 0, .int 0, .int 0, .int 0])), (q1, .inl (c2, (dL * 8), .inr (.inl (fun _ => 0)))), (q3, .inl (c4, dL, .inl (fun _ => 0))), (q5, .inl (c6, dL, .inl (fun _ => 0))), (q7, .inl (c8, 8, .inr (.inl (fun _ => 0))))] H := hP
  have hD : va_D A [(h0, .inr (6, [.ref hd, .ref hv, .ref q1, .ref q3, .ref q5, .null, .int 0, .int 0, .int 0])), (hd, .inr (2, [.int (nI dB), .int (nI dT), .int (nI dS), .int (nI dW), .int (nI dL), .int (nI dC), .ref qc, .ref ql, .int 1, .int (-1), .int 0, .int 0, .int 0, .int 0, .int 0])), (q1, .inl (c2, (dL * 8), .inr (.inl (fun _ => 0)))), (q3, .inl (c4, dL, .inl (fun _ => 0))), (q5, .inl (c6, dL, .inl (fun _ => 0))), (q7, .inl (c8, 8, .inr (.inl (fun _ => 0))))] := hD
  have hK : va_K D vwCl [(c2, .long), (c4, .boolean), (c6, .int), (c8, .long)] s := hK
  refine W.widen (k := 4) (n := 20488) (by omega) (by omega) ?_
  refine va_putF (D := D) (ci := 6) (v := .ref q7) (ty := .array .long) (C := RX6) (T := TX6) (N := 9) hx hb hts inT_X6 tyX6 tyX6_ok nmX6 hown hK hP hD hS 0 rfl rfl 5 (by decide) (hts _ fl_X6_37) (fun _ h9 => h9) rfl hin rfl (by decide +kernel) rfl rfl (Nat.le_of_ble_eq_true rfl) dX6_init_52 (fun H locs hP hD hS => ?_)
  have hP : va_P D vwCl [(h0, .inr (6, [.ref hd, .ref hv, .ref q1, .ref q3, .ref q5, .ref q7, .int 0, .int 0, .int 0])), (hd, .inr (2, [.int (nI dB), .int (nI dT), .int (nI dS), .int (nI dW), .int (nI dL), .int (nI dC), .ref qc, .ref ql, .int 1, .int (-1), .int 0, .int 0, .int 0, .int 0, .int 0])), (q1, .inl (c2, (dL * 8), .inr (.inl (fun _ => 0)))), (q3, .inl (c4, dL, .inl (fun _ => 0))), (q5, .inl (c6, dL, .inl (fun _ => 0))), (q7, .inl (c8, 8, .inr (.inl (fun _ => 0))))] H := hP
  have hD : va_D A [(h0, .inr (6, [.ref hd, .ref hv, .ref q1, .ref q3, .ref q5, .ref q7, .int 0, .int 0, .int 0])), (hd, .inr (2, [.int (nI dB), .int (nI dT), .int (nI dS), .int (nI dW), .int (nI dL), .int (nI dC), .ref qc, .ref ql, .int 1, .int (-1), .int 0, .int 0, .int 0, .int 0, .int 0])), (q1, .inl (c2, (dL * 8), .inr (.inl (fun _ => 0)))), (q3, .inl (c4, dL, .inl (fun _ => 0))), (q5, .inl (c6, dL, .inl (fun _ => 0))), (q7, .inl (c8, 8, .inr (.inl (fun _ => 0))))] := hD
  have hK9 := hK.sub (tys' := [(c2, .long), (c4, .boolean), (c6, .int), (c8, .long)]) [0, 1, 2, 3] rfl
  refine W.widen (k := 4) (n := 20488) (by omega) (by omega) ?_
  exact W.vret hx hb hr (fun t ht hW => ⟨⟨(), rfl, trivial, q1, q3, q5, q7, c2, c4, c6, c8, by rw [ht]; exact hP, va_K.moved hW.alike hK9, hD⟩, hS.F ht⟩) hS.2.2 dX6_init_55
set_option maxHeartbeats 4000000 in
set_option maxRecDepth 100000 in
theorem ki_X5 (l : Launch) (D : va_G) (h0 sz : Nat) (hd : Nat) (hs : Nat) (dB : Nat) (dT : Nat) (dS : Nat) (dW : Nat) (dL : Nat) (dC : Nat) (qc : Nat) (ql : Nat) (hh0 : dL ≤ 2048) : Met l yX5_init (Cond.code yX5_init cX5_init 3 none :: q_T) ({ frames := 1, cells := 0, slots := 0, locals := 12 } : Room) (va_Pc [.ref h0, .ref hd, .ref hs] (fun U => U.heap.size = sz ∧ va_P D vwCl [(h0, .inr (5, [.null, .int 0, .int 0, .int 0, .int 0, .int 0])), (hd, .inr (2, [.int (nI dB), .int (nI dT), .int (nI dS), .int (nI dW), .int (nI dL), .int (nI dC), .ref qc, .ref ql, .int 1, .int (-1), .int 0, .int 0, .int 0, .int 0, .int 0]))] U.heap ∧ va_K D vwCl [] U ∧ va_D (fun _ => True) [(h0, .inr (5, [.null, .int 0, .int 0, .int 0, .int 0, .int 0])), (hd, .inr (2, [.int (nI dB), .int (nI dT), .int (nI dS), .int (nI dW), .int (nI dL), .int (nI dC), .ref qc, .ref ql, .int 1, .int (-1), .int 0, .int 0, .int 0, .int 0, .int 0]))])) (va_Qv (fun _ : Unit => True) (fun _ t => va_P D vwCl [(h0, .inr (5, [.ref hs, .int (nI dL), .int (nI dW), .int (nI ((dL + 63) / 64)), .int (nI (80 + ((dL + 511) / 512))), .int (nI ((80 + ((dL + 511) / 512)) + 64))])), (hd, .inr (2, [.int (nI dB), .int (nI dT), .int (nI dS), .int (nI dW), .int (nI dL), .int (nI dC), .ref qc, .ref ql, .int 1, .int (-1), .int 0, .int 0, .int 0, .int 0, .int 0]))] t.heap ∧ va_K D vwCl [] t ∧ va_D (va_A [(h0, .inr (5, [.null, .int 0, .int 0, .int 0, .int 0, .int 0])), (hd, .inr (2, [.int (nI dB), .int (nI dT), .int (nI dS), .int (nI dW), .int (nI dL), .int (nI dC), .ref qc, .ref ql, .int 1, .int (-1), .int 0, .int 0, .int 0, .int 0, .int 0]))] sz) [(h0, .inr (5, [.ref hs, .int (nI dL), .int (nI dW), .int (nI ((dL + 63) / 64)), .int (nI (80 + ((dL + 511) / 512))), .int (nI ((80 + ((dL + 511) / 512)) + 64))])), (hd, .inr (2, [.int (nI dB), .int (nI dT), .int (nI dS), .int (nI dW), .int (nI dL), .int (nI dC), .ref qc, .ref ql, .int 1, .int (-1), .int 0, .int 0, .int 0, .int 0, .int 0]))]) (va_A [(h0, .inr (5, [.null, .int 0, .int 0, .int 0, .int 0, .int 0])), (hd, .inr (2, [.int (nI dB), .int (nI dT), .int (nI dS), .int (nI dW), .int (nI dL), .int (nI dC), .ref qc, .ref ql, .int 1, .int (-1), .int 0, .int 0, .int 0, .int 0, .int 0]))] sz)) 0 0 (va_A [(h0, .inr (5, [.null, .int 0, .int 0, .int 0, .int 0, .int 0])), (hd, .inr (2, [.int (nI dB), .int (nI dT), .int (nI dS), .int (nI dW), .int (nI dL), .int (nI dC), .ref qc, .ref ql, .int 1, .int (-1), .int 0, .int 0, .int 0, .int 0, .int 0]))] sz) := by
  refine Met.ofW (cc := cX5_init) (maxL := 3) (ret := none) (by decide) rfl ?_
  intro p e s m args below meth c s₁ Bd hml hv
  obtain ⟨rfl, hsz, hP, hK, hD0⟩ := hv
  have hx := Bd.exec
  have hb := Bd.bytes
  have hr := Bd.returns
  have hts := q_ts (atoms_spec (ws := Cond.code yX5_init cX5_init 3 none :: q_T) Bd.pre)
  have hown : s.vm.findClass RX5 = some m.cls := findClass_of_methodNamed Bd.named
  have hlocks := Bd.notSynchronized
  have hin : meth.name = "<init>" := (name_of_methodNamed Bd.named Bd.method).1
  subst hsz
  have hD := hD0.self (sz := s.heap.size)
  generalize hAe : va_A [(h0, .inr (5, [.null, .int 0, .int 0, .int 0, .int 0, .int 0])), (hd, .inr (2, [.int (nI dB), .int (nI dT), .int (nI dS), .int (nI dW), .int (nI dL), .int (nI dC), .ref qc, .ref ql, .int 1, .int (-1), .int 0, .int 0, .int 0, .int 0, .int 0]))] s.heap.size = A at hD ⊢
  have hA : ∀ q : Nat, s.heap.size ≤ q → A q := fun q h => by rw [← hAe]; exact Or.inr h
  have hS : va_S A s.heap s.heap [] := va_S.rf
  have hl := lv_entry ([.ref h0, .ref hd, .ref hs]) (n := 3) (Nat.le_of_ble_eq_true rfl)
  rw [lg_entry_eq]
  generalize (lg_sl ([.ref h0, .ref hd, .ref hs]) ++ List.replicate (3 - (lg_sl ([.ref h0, .ref hd, .ref hs])).length) Slot.unset).toArray = ls at hl ⊢
  have hl : lv_has ls 3 [(0, .ref h0), (1, .ref hd), (2, .ref hs)] := hl
  refine lv_aload_n hx hb dX5_init_0 rfl (lv_at hl 0 rfl) ?_
  refine W.objInit hx hb hown (hts _ ol_X5_3) (hts _ oi_i) (hts _ oi_c) rfl (by rw [hml]; exact hl.1) rfl dX5_init_1 (Nat.le_of_ble_eq_true rfl) (Nat.le_of_ble_eq_true rfl) ?_
  refine W.eq (g2 := F0 m 4 ls []) rfl ?_
  refine lv_aload_n hx hb dX5_init_4 rfl (lv_at hl 0 rfl) ?_
  refine lv_aload_n hx hb dX5_init_5 rfl (lv_at hl 2 rfl) ?_
  refine va_putF (D := D) (ci := 5) (v := .ref hs) (ty := .object "ShingleHouse$Store") (C := RX5) (T := TX5) (N := 6) hx hb hts inT_X5 tyX5 tyX5_ok nmX5 hown hK hP hD hS 0 rfl rfl 0 (by decide) (hts _ fl_X5_9) (fun _ h9 => h9) rfl hin rfl (by decide +kernel) rfl rfl (Nat.le_of_ble_eq_true rfl) dX5_init_6 (fun H locs hP hD hS => ?_)
  have hP : va_P D vwCl [(h0, .inr (5, [.ref hs, .int 0, .int 0, .int 0, .int 0, .int 0])), (hd, .inr (2, [.int (nI dB), .int (nI dT), .int (nI dS), .int (nI dW), .int (nI dL), .int (nI dC), .ref qc, .ref ql, .int 1, .int (-1), .int 0, .int 0, .int 0, .int 0, .int 0]))] H := hP
  have hD : va_D A [(h0, .inr (5, [.ref hs, .int 0, .int 0, .int 0, .int 0, .int 0])), (hd, .inr (2, [.int (nI dB), .int (nI dT), .int (nI dS), .int (nI dW), .int (nI dL), .int (nI dC), .ref qc, .ref ql, .int 1, .int (-1), .int 0, .int 0, .int 0, .int 0, .int 0]))] := hD
  refine lv_aload_n hx hb dX5_init_9 rfl (lv_at hl 0 rfl) ?_
  refine lv_aload_n hx hb dX5_init_10 rfl (lv_at hl 1 rfl) ?_
  refine va_get (D := D) (ci := 2) (v := .int (nI dL)) (C := RX2) (T := TX2) (N := 15) hx hb hts inT_X2 hown hK hP 1 rfl rfl 4 (by decide) (hts _ fl_X5_15) (fun _ h9 => h9) rfl dX5_init_11 ?_
  refine va_putF (D := D) (ci := 5) (v := .int (nI dL)) (ty := .int) (C := RX5) (T := TX5) (N := 6) hx hb hts inT_X5 tyX5 tyX5_ok nmX5 hown hK hP hD hS 0 rfl rfl 1 (by decide) (hts _ fl_X5_21) (fun _ h9 => h9) rfl hin rfl (by decide +kernel) rfl rfl (Nat.le_of_ble_eq_true rfl) dX5_init_14 (fun H locs hP hD hS => ?_)
  have hP : va_P D vwCl [(h0, .inr (5, [.ref hs, .int (nI dL), .int 0, .int 0, .int 0, .int 0])), (hd, .inr (2, [.int (nI dB), .int (nI dT), .int (nI dS), .int (nI dW), .int (nI dL), .int (nI dC), .ref qc, .ref ql, .int 1, .int (-1), .int 0, .int 0, .int 0, .int 0, .int 0]))] H := hP
  have hD : va_D A [(h0, .inr (5, [.ref hs, .int (nI dL), .int 0, .int 0, .int 0, .int 0])), (hd, .inr (2, [.int (nI dB), .int (nI dT), .int (nI dS), .int (nI dW), .int (nI dL), .int (nI dC), .ref qc, .ref ql, .int 1, .int (-1), .int 0, .int 0, .int 0, .int 0, .int 0]))] := hD
  refine lv_aload_n hx hb dX5_init_17 rfl (lv_at hl 0 rfl) ?_
  refine lv_aload_n hx hb dX5_init_18 rfl (lv_at hl 1 rfl) ?_
  refine va_get (D := D) (ci := 2) (v := .int (nI dW)) (C := RX2) (T := TX2) (N := 15) hx hb hts inT_X2 hown hK hP 1 rfl rfl 3 (by decide) (hts _ fl_X5_22) (fun _ h9 => h9) rfl dX5_init_19 ?_
  refine va_putF (D := D) (ci := 5) (v := .int (nI dW)) (ty := .int) (C := RX5) (T := TX5) (N := 6) hx hb hts inT_X5 tyX5 tyX5_ok nmX5 hown hK hP hD hS 0 rfl rfl 2 (by decide) (hts _ fl_X5_25) (fun _ h9 => h9) rfl hin rfl (by decide +kernel) rfl rfl (Nat.le_of_ble_eq_true rfl) dX5_init_22 (fun H locs hP hD hS => ?_)
  have hP : va_P D vwCl [(h0, .inr (5, [.ref hs, .int (nI dL), .int (nI dW), .int 0, .int 0, .int 0])), (hd, .inr (2, [.int (nI dB), .int (nI dT), .int (nI dS), .int (nI dW), .int (nI dL), .int (nI dC), .ref qc, .ref ql, .int 1, .int (-1), .int 0, .int 0, .int 0, .int 0, .int 0]))] H := hP
  have hD : va_D A [(h0, .inr (5, [.ref hs, .int (nI dL), .int (nI dW), .int 0, .int 0, .int 0])), (hd, .inr (2, [.int (nI dB), .int (nI dT), .int (nI dS), .int (nI dW), .int (nI dL), .int (nI dC), .ref qc, .ref ql, .int 1, .int (-1), .int 0, .int 0, .int 0, .int 0, .int 0]))] := hD
  refine lv_aload_n hx hb dX5_init_25 rfl (lv_at hl 0 rfl) ?_
  refine lv_aload_n hx hb dX5_init_26 rfl (lv_at hl 0 rfl) ?_
  refine va_get (D := D) (ci := 5) (v := .int (nI dL)) (C := RX5) (T := TX5) (N := 6) hx hb hts inT_X5 hown hK hP 0 rfl rfl 1 (by decide) (hts _ fl_X5_21) (fun _ h9 => h9) rfl dX5_init_27 ?_
  refine lv_bipush (v := 63) hx hb dX5_init_30 (by decide) ?_
  refine lv_iadd hx hb dX5_init_32 ?_
  rw [show nI dL + (63 : Int32) = nI (dL + 63) from nI_add dL 63]
  refine lv_bipush (v := 64) hx hb dX5_init_33 (by decide) ?_
  refine lv_idiv hx hb dX5_init_35 (by decide) ?_
  rw [show nI (dL + 63) / (64 : Int32) = nI ((dL + 63) / 64) from pk_div (by omega) (by decide) (by decide)]
  refine va_putF (D := D) (ci := 5) (v := .int (nI ((dL + 63) / 64))) (ty := .int) (C := RX5) (T := TX5) (N := 6) hx hb hts inT_X5 tyX5 tyX5_ok nmX5 hown hK hP hD hS 0 rfl rfl 3 (by decide) (hts _ fl_X5_26) (fun _ h9 => h9) rfl hin rfl (by decide +kernel) rfl rfl (Nat.le_of_ble_eq_true rfl) dX5_init_36 (fun H locs hP hD hS => ?_)
  have hP : va_P D vwCl [(h0, .inr (5, [.ref hs, .int (nI dL), .int (nI dW), .int (nI ((dL + 63) / 64)), .int 0, .int 0])), (hd, .inr (2, [.int (nI dB), .int (nI dT), .int (nI dS), .int (nI dW), .int (nI dL), .int (nI dC), .ref qc, .ref ql, .int 1, .int (-1), .int 0, .int 0, .int 0, .int 0, .int 0]))] H := hP
  have hD : va_D A [(h0, .inr (5, [.ref hs, .int (nI dL), .int (nI dW), .int (nI ((dL + 63) / 64)), .int 0, .int 0])), (hd, .inr (2, [.int (nI dB), .int (nI dT), .int (nI dS), .int (nI dW), .int (nI dL), .int (nI dC), .ref qc, .ref ql, .int 1, .int (-1), .int 0, .int 0, .int 0, .int 0, .int 0]))] := hD
  refine lv_aload_n hx hb dX5_init_39 rfl (lv_at hl 0 rfl) ?_
  refine lv_bipush (v := 80) hx hb dX5_init_40 (by decide) ?_
  refine lv_aload_n hx hb dX5_init_42 rfl (lv_at hl 0 rfl) ?_
  refine va_get (D := D) (ci := 5) (v := .int (nI dL)) (C := RX5) (T := TX5) (N := 6) hx hb hts inT_X5 hown hK hP 0 rfl rfl 1 (by decide) (hts _ fl_X5_21) (fun _ h9 => h9) rfl dX5_init_43 ?_
  refine lv_sipush (v := 511) hx hb dX5_init_46 (by decide) ?_
  refine lv_iadd hx hb dX5_init_49 ?_
  rw [show nI dL + (511 : Int32) = nI (dL + 511) from nI_add dL 511]
  refine lv_sipush (v := 512) hx hb dX5_init_50 (by decide) ?_
  refine lv_idiv hx hb dX5_init_53 (by decide) ?_
  rw [show nI (dL + 511) / (512 : Int32) = nI ((dL + 511) / 512) from pk_div (by omega) (by decide) (by decide)]
  refine lv_iadd hx hb dX5_init_54 ?_
  rw [show (80 : Int32) + nI ((dL + 511) / 512) = nI (80 + ((dL + 511) / 512)) from nI_add 80 ((dL + 511) / 512)]
  refine va_putF (D := D) (ci := 5) (v := .int (nI (80 + ((dL + 511) / 512)))) (ty := .int) (C := RX5) (T := TX5) (N := 6) hx hb hts inT_X5 tyX5 tyX5_ok nmX5 hown hK hP hD hS 0 rfl rfl 4 (by decide) (hts _ fl_X5_29) (fun _ h9 => h9) rfl hin rfl (by decide +kernel) rfl rfl (Nat.le_of_ble_eq_true rfl) dX5_init_55 (fun H locs hP hD hS => ?_)
  have hP : va_P D vwCl [(h0, .inr (5, [.ref hs, .int (nI dL), .int (nI dW), .int (nI ((dL + 63) / 64)), .int (nI (80 + ((dL + 511) / 512))), .int 0])), (hd, .inr (2, [.int (nI dB), .int (nI dT), .int (nI dS), .int (nI dW), .int (nI dL), .int (nI dC), .ref qc, .ref ql, .int 1, .int (-1), .int 0, .int 0, .int 0, .int 0, .int 0]))] H := hP
  have hD : va_D A [(h0, .inr (5, [.ref hs, .int (nI dL), .int (nI dW), .int (nI ((dL + 63) / 64)), .int (nI (80 + ((dL + 511) / 512))), .int 0])), (hd, .inr (2, [.int (nI dB), .int (nI dT), .int (nI dS), .int (nI dW), .int (nI dL), .int (nI dC), .ref qc, .ref ql, .int 1, .int (-1), .int 0, .int 0, .int 0, .int 0, .int 0]))] := hD
  refine lv_aload_n hx hb dX5_init_58 rfl (lv_at hl 0 rfl) ?_
  refine lv_aload_n hx hb dX5_init_59 rfl (lv_at hl 0 rfl) ?_
  refine va_get (D := D) (ci := 5) (v := .int (nI (80 + ((dL + 511) / 512)))) (C := RX5) (T := TX5) (N := 6) hx hb hts inT_X5 hown hK hP 0 rfl rfl 4 (by decide) (hts _ fl_X5_29) (fun _ h9 => h9) rfl dX5_init_60 ?_
  refine lv_bipush (v := 64) hx hb dX5_init_63 (by decide) ?_
  refine lv_iadd hx hb dX5_init_65 ?_
  rw [show nI (80 + ((dL + 511) / 512)) + (64 : Int32) = nI ((80 + ((dL + 511) / 512)) + 64) from nI_add (80 + ((dL + 511) / 512)) 64]
  refine va_putF (D := D) (ci := 5) (v := .int (nI ((80 + ((dL + 511) / 512)) + 64))) (ty := .int) (C := RX5) (T := TX5) (N := 6) hx hb hts inT_X5 tyX5 tyX5_ok nmX5 hown hK hP hD hS 0 rfl rfl 5 (by decide) (hts _ fl_X5_32) (fun _ h9 => h9) rfl hin rfl (by decide +kernel) rfl rfl (Nat.le_of_ble_eq_true rfl) dX5_init_66 (fun H locs hP hD hS => ?_)
  have hP : va_P D vwCl [(h0, .inr (5, [.ref hs, .int (nI dL), .int (nI dW), .int (nI ((dL + 63) / 64)), .int (nI (80 + ((dL + 511) / 512))), .int (nI ((80 + ((dL + 511) / 512)) + 64))])), (hd, .inr (2, [.int (nI dB), .int (nI dT), .int (nI dS), .int (nI dW), .int (nI dL), .int (nI dC), .ref qc, .ref ql, .int 1, .int (-1), .int 0, .int 0, .int 0, .int 0, .int 0]))] H := hP
  have hD : va_D A [(h0, .inr (5, [.ref hs, .int (nI dL), .int (nI dW), .int (nI ((dL + 63) / 64)), .int (nI (80 + ((dL + 511) / 512))), .int (nI ((80 + ((dL + 511) / 512)) + 64))])), (hd, .inr (2, [.int (nI dB), .int (nI dT), .int (nI dS), .int (nI dW), .int (nI dL), .int (nI dC), .ref qc, .ref ql, .int 1, .int (-1), .int 0, .int 0, .int 0, .int 0, .int 0]))] := hD
  have hK9 := hK.sub (tys' := []) [] rfl
  refine W.widen (k := 0) (n := 0) (by omega) (by omega) ?_
  exact W.vret hx hb hr (fun t ht hW => ⟨⟨(), rfl, trivial, by rw [ht]; exact hP, va_K.moved hW.alike hK9, hD⟩, hS.F ht⟩) hS.2.2 dX5_init_69
set_option maxHeartbeats 4000000 in
set_option maxRecDepth 100000 in
theorem ki_X4 (l : Launch) (D : va_G) (h0 sz : Nat) (hs : Nat) (xN : Nat)  : Met l yX4_init (Cond.code yX4_init cX4_init 3 none :: q_T) ({ frames := 1, cells := 0, slots := 0, locals := 12 } : Room) (va_Pc [.ref h0, .ref hs, .int (nI xN)] (fun U => U.heap.size = sz ∧ va_P D vwCl [(h0, .inr (4, [.null, .int 0]))] U.heap ∧ va_K D vwCl [] U ∧ va_D (fun _ => True) [(h0, .inr (4, [.null, .int 0]))])) (va_Qv (fun _ : Unit => True) (fun _ t => va_P D vwCl [(h0, .inr (4, [.ref hs, .int (nI xN)]))] t.heap ∧ va_K D vwCl [] t ∧ va_D (va_A [(h0, .inr (4, [.null, .int 0]))] sz) [(h0, .inr (4, [.ref hs, .int (nI xN)]))]) (va_A [(h0, .inr (4, [.null, .int 0]))] sz)) 0 0 (va_A [(h0, .inr (4, [.null, .int 0]))] sz) := by
  refine Met.ofW (cc := cX4_init) (maxL := 3) (ret := none) (by decide) rfl ?_
  intro p e s m args below meth c s₁ Bd hml hv
  obtain ⟨rfl, hsz, hP, hK, hD0⟩ := hv
  have hx := Bd.exec
  have hb := Bd.bytes
  have hr := Bd.returns
  have hts := q_ts (atoms_spec (ws := Cond.code yX4_init cX4_init 3 none :: q_T) Bd.pre)
  have hown : s.vm.findClass RX4 = some m.cls := findClass_of_methodNamed Bd.named
  have hlocks := Bd.notSynchronized
  have hin : meth.name = "<init>" := (name_of_methodNamed Bd.named Bd.method).1
  subst hsz
  have hD := hD0.self (sz := s.heap.size)
  generalize hAe : va_A [(h0, .inr (4, [.null, .int 0]))] s.heap.size = A at hD ⊢
  have hA : ∀ q : Nat, s.heap.size ≤ q → A q := fun q h => by rw [← hAe]; exact Or.inr h
  have hS : va_S A s.heap s.heap [] := va_S.rf
  have hl := lv_entry ([.ref h0, .ref hs, .int (nI xN)]) (n := 3) (Nat.le_of_ble_eq_true rfl)
  rw [lg_entry_eq]
  generalize (lg_sl ([.ref h0, .ref hs, .int (nI xN)]) ++ List.replicate (3 - (lg_sl ([.ref h0, .ref hs, .int (nI xN)])).length) Slot.unset).toArray = ls at hl ⊢
  have hl : lv_has ls 3 [(0, .ref h0), (1, .ref hs), (2, .int (nI xN))] := hl
  refine lv_aload_n hx hb dX4_init_0 rfl (lv_at hl 0 rfl) ?_
  refine W.objInit hx hb hown (hts _ ol_X4_3) (hts _ oi_i) (hts _ oi_c) rfl (by rw [hml]; exact hl.1) rfl dX4_init_1 (Nat.le_of_ble_eq_true rfl) (Nat.le_of_ble_eq_true rfl) ?_
  refine W.eq (g2 := F0 m 4 ls []) rfl ?_
  refine lv_aload_n hx hb dX4_init_4 rfl (lv_at hl 0 rfl) ?_
  refine lv_aload_n hx hb dX4_init_5 rfl (lv_at hl 1 rfl) ?_
  refine va_putF (D := D) (ci := 4) (v := .ref hs) (ty := .object "ShingleHouse$Store") (C := RX4) (T := TX4) (N := 2) hx hb hts inT_X4 tyX4 tyX4_ok nmX4 hown hK hP hD hS 0 rfl rfl 0 (by decide) (hts _ fl_X4_9) (fun _ h9 => h9) rfl hin rfl (by decide +kernel) rfl rfl (Nat.le_of_ble_eq_true rfl) dX4_init_6 (fun H locs hP hD hS => ?_)
  have hP : va_P D vwCl [(h0, .inr (4, [.ref hs, .int 0]))] H := hP
  have hD : va_D A [(h0, .inr (4, [.ref hs, .int 0]))] := hD
  refine lv_aload_n hx hb dX4_init_9 rfl (lv_at hl 0 rfl) ?_
  refine lv_iload_n hx hb dX4_init_10 rfl (lv_at hl 2 rfl) ?_
  refine va_putF (D := D) (ci := 4) (v := .int (nI xN)) (ty := .int) (C := RX4) (T := TX4) (N := 2) hx hb hts inT_X4 tyX4 tyX4_ok nmX4 hown hK hP hD hS 0 rfl rfl 1 (by decide) (hts _ fl_X4_15) (fun _ h9 => h9) rfl hin rfl (by decide +kernel) rfl rfl (Nat.le_of_ble_eq_true rfl) dX4_init_11 (fun H locs hP hD hS => ?_)
  have hP : va_P D vwCl [(h0, .inr (4, [.ref hs, .int (nI xN)]))] H := hP
  have hD : va_D A [(h0, .inr (4, [.ref hs, .int (nI xN)]))] := hD
  have hK9 := hK.sub (tys' := []) [] rfl
  refine W.widen (k := 0) (n := 0) (by omega) (by omega) ?_
  exact W.vret hx hb hr (fun t ht hW => ⟨⟨(), rfl, trivial, by rw [ht]; exact hP, va_K.moved hW.alike hK9, hD⟩, hS.F ht⟩) hS.2.2 dX4_init_14
set_option maxHeartbeats 4000000 in
set_option maxRecDepth 100000 in
theorem ki_X3 (l : Launch) (D : va_G) (h0 sz : Nat) (hs : Nat) (hp : Nat) (hn : Nat)  : Met l yX3_init (Cond.code yX3_init cX3_init 4 none :: q_T) ({ frames := 1, cells := 2, slots := 96, locals := 12 } : Room) (va_Pc [.ref h0, .ref hs, .ref hp, .ref hn] (fun U => U.heap.size = sz ∧ va_P D vwCl [(h0, .inr (3, [.null, .null, .null, .null, .null]))] U.heap ∧ va_K D vwCl [] U ∧ va_D (fun _ => True) [(h0, .inr (3, [.null, .null, .null, .null, .null]))])) (va_Qv (fun _ : Unit => True) (fun _ t => ∃ (q1 : Nat) (q3 : Nat) (c2 : ClassId) (c4 : ClassId), va_P D vwCl [(h0, .inr (3, [.ref hs, .ref hp, .ref hn, .ref q1, .ref q3])), (q1, .inl (c2, 48, .inr (.inl (fun _ => 0)))), (q3, .inl (c4, 48, .inl (fun _ => 0)))] t.heap ∧ va_K D vwCl [(c2, .long), (c4, .int)] t ∧ va_D (va_A [(h0, .inr (3, [.null, .null, .null, .null, .null]))] sz) [(h0, .inr (3, [.ref hs, .ref hp, .ref hn, .ref q1, .ref q3])), (q1, .inl (c2, 48, .inr (.inl (fun _ => 0)))), (q3, .inl (c4, 48, .inl (fun _ => 0)))]) (va_A [(h0, .inr (3, [.null, .null, .null, .null, .null]))] sz)) 2 96 (va_A [(h0, .inr (3, [.null, .null, .null, .null, .null]))] sz) := by
  refine Met.ofW (cc := cX3_init) (maxL := 4) (ret := none) (by decide) rfl ?_
  intro p e s m args below meth c s₁ Bd hml hv
  obtain ⟨rfl, hsz, hP, hK, hD0⟩ := hv
  have hx := Bd.exec
  have hb := Bd.bytes
  have hr := Bd.returns
  have hts := q_ts (atoms_spec (ws := Cond.code yX3_init cX3_init 4 none :: q_T) Bd.pre)
  have hown : s.vm.findClass RX3 = some m.cls := findClass_of_methodNamed Bd.named
  have hlocks := Bd.notSynchronized
  have hin : meth.name = "<init>" := (name_of_methodNamed Bd.named Bd.method).1
  subst hsz
  have hD := hD0.self (sz := s.heap.size)
  generalize hAe : va_A [(h0, .inr (3, [.null, .null, .null, .null, .null]))] s.heap.size = A at hD ⊢
  have hA : ∀ q : Nat, s.heap.size ≤ q → A q := fun q h => by rw [← hAe]; exact Or.inr h
  have hS : va_S A s.heap s.heap [] := va_S.rf
  have hl := lv_entry ([.ref h0, .ref hs, .ref hp, .ref hn]) (n := 4) (Nat.le_of_ble_eq_true rfl)
  rw [lg_entry_eq]
  generalize (lg_sl ([.ref h0, .ref hs, .ref hp, .ref hn]) ++ List.replicate (4 - (lg_sl ([.ref h0, .ref hs, .ref hp, .ref hn])).length) Slot.unset).toArray = ls at hl ⊢
  have hl : lv_has ls 4 [(0, .ref h0), (1, .ref hs), (2, .ref hp), (3, .ref hn)] := hl
  refine lv_aload_n hx hb dX3_init_0 rfl (lv_at hl 0 rfl) ?_
  refine W.objInit hx hb hown (hts _ ol_X3_3) (hts _ oi_i) (hts _ oi_c) rfl (by rw [hml]; exact hl.1) rfl dX3_init_1 (Nat.le_of_ble_eq_true rfl) (Nat.le_of_ble_eq_true rfl) ?_
  refine W.eq (g2 := F0 m 4 ls []) rfl ?_
  refine lv_aload_n hx hb dX3_init_4 rfl (lv_at hl 0 rfl) ?_
  refine lv_aload_n hx hb dX3_init_5 rfl (lv_at hl 1 rfl) ?_
  refine va_putF (D := D) (ci := 3) (v := .ref hs) (ty := .object "ShingleHouse$Store") (C := RX3) (T := TX3) (N := 5) hx hb hts inT_X3 tyX3 tyX3_ok nmX3 hown hK hP hD hS 0 rfl rfl 0 (by decide) (hts _ fl_X3_9) (fun _ h9 => h9) rfl hin rfl (by decide +kernel) rfl rfl (Nat.le_of_ble_eq_true rfl) dX3_init_6 (fun H locs hP hD hS => ?_)
  have hP : va_P D vwCl [(h0, .inr (3, [.ref hs, .null, .null, .null, .null]))] H := hP
  have hD : va_D A [(h0, .inr (3, [.ref hs, .null, .null, .null, .null]))] := hD
  refine lv_aload_n hx hb dX3_init_9 rfl (lv_at hl 0 rfl) ?_
  refine lv_aload_n hx hb dX3_init_10 rfl (lv_at hl 2 rfl) ?_
  refine va_putF (D := D) (ci := 3) (v := .ref hp) (ty := .object "ShingleHouse$Space") (C := RX3) (T := TX3) (N := 5) hx hb hts inT_X3 tyX3 tyX3_ok nmX3 hown hK hP hD hS 0 rfl rfl 1 (by decide) (hts _ fl_X3_15) (fun _ h9 => h9) rfl hin rfl (by decide +kernel) rfl rfl (Nat.le_of_ble_eq_true rfl) dX3_init_11 (fun H locs hP hD hS => ?_)
  have hP : va_P D vwCl [(h0, .inr (3, [.ref hs, .ref hp, .null, .null, .null]))] H := hP
  have hD : va_D A [(h0, .inr (3, [.ref hs, .ref hp, .null, .null, .null]))] := hD
  refine lv_aload_n hx hb dX3_init_14 rfl (lv_at hl 0 rfl) ?_
  refine lv_aload_n hx hb dX3_init_15 rfl (lv_at hl 3 rfl) ?_
  refine va_putF (D := D) (ci := 3) (v := .ref hn) (ty := .object "ShingleHouse$Nodes") (C := RX3) (T := TX3) (N := 5) hx hb hts inT_X3 tyX3 tyX3_ok nmX3 hown hK hP hD hS 0 rfl rfl 2 (by decide) (hts _ fl_X3_19) (fun _ h9 => h9) rfl hin rfl (by decide +kernel) rfl rfl (Nat.le_of_ble_eq_true rfl) dX3_init_16 (fun H locs hP hD hS => ?_)
  have hP : va_P D vwCl [(h0, .inr (3, [.ref hs, .ref hp, .ref hn, .null, .null]))] H := hP
  have hD : va_D A [(h0, .inr (3, [.ref hs, .ref hp, .ref hn, .null, .null]))] := hD
  refine lv_aload_n hx hb dX3_init_19 rfl (lv_at hl 0 rfl) ?_
  refine lv_bipush (v := 48) hx hb dX3_init_20 (by decide) ?_
  refine va_newa (atype := .long) (ty := .long) (N' := 48) (a0 := (48, .inr (.inl (fun _ => 0)))) hx hb (hts _ ac_long) rfl hK hP hD hS hA (fun _ => rfl) (by decide) (by decide) (by decide) (Nat.le_of_ble_eq_true rfl) (Nat.le_of_ble_eq_true rfl) dX3_init_22 (fun q1 c2 H hK hP hD hS => ?_)
  have hP : va_P D vwCl [(h0, .inr (3, [.ref hs, .ref hp, .ref hn, .null, .null])), (q1, .inl (c2, 48, .inr (.inl (fun _ => 0))))] H := hP
  have hD : va_D A [(h0, .inr (3, [.ref hs, .ref hp, .ref hn, .null, .null])), (q1, .inl (c2, 48, .inr (.inl (fun _ => 0))))] := hD
  have hK : va_K D vwCl [(c2, .long)] s := hK
  refine W.widen (k := 1) (n := 48) (by omega) (by omega) ?_
  refine va_putF (D := D) (ci := 3) (v := .ref q1) (ty := .array .long) (C := RX3) (T := TX3) (N := 5) hx hb hts inT_X3 tyX3 tyX3_ok nmX3 hown hK hP hD hS 0 rfl rfl 3 (by decide) (hts _ fl_X3_23) (fun _ h9 => h9) rfl hin rfl (by decide +kernel) rfl rfl (Nat.le_of_ble_eq_true rfl) dX3_init_24 (fun H locs hP hD hS => ?_)
  have hP : va_P D vwCl [(h0, .inr (3, [.ref hs, .ref hp, .ref hn, .ref q1, .null])), (q1, .inl (c2, 48, .inr (.inl (fun _ => 0))))] H := hP
  have hD : va_D A [(h0, .inr (3, [.ref hs, .ref hp, .ref hn, .ref q1, .null])), (q1, .inl (c2, 48, .inr (.inl (fun _ => 0))))] := hD
  refine lv_aload_n hx hb dX3_init_27 rfl (lv_at hl 0 rfl) ?_
  refine lv_bipush (v := 48) hx hb dX3_init_28 (by decide) ?_
  refine va_newa (atype := .int) (ty := .int) (N' := 48) (a0 := (48, .inl (fun _ => 0))) hx hb (hts _ ac_int) rfl hK hP hD hS hA (fun _ => rfl) (by decide) (by decide) (by decide) (Nat.le_of_ble_eq_true rfl) (Nat.le_of_ble_eq_true rfl) dX3_init_30 (fun q3 c4 H hK hP hD hS => ?_)
  have hP : va_P D vwCl [(h0, .inr (3, [.ref hs, .ref hp, .ref hn, .ref q1, .null])), (q1, .inl (c2, 48, .inr (.inl (fun _ => 0)))), (q3, .inl (c4, 48, .inl (fun _ => 0)))] H := hP
  have hD : va_D A [(h0, .inr (3, [.ref hs, .ref hp, .ref hn, .ref q1, .null])), (q1, .inl (c2, 48, .inr (.inl (fun _ => 0)))), (q3, .inl (c4, 48, .inl (fun _ => 0)))] := hD
  have hK : va_K D vwCl [(c2, .long), (c4, .int)] s := hK
  refine W.widen (k := 2) (n := 96) (by omega) (by omega) ?_
  refine va_putF (D := D) (ci := 3) (v := .ref q3) (ty := .array .int) (C := RX3) (T := TX3) (N := 5) hx hb hts inT_X3 tyX3 tyX3_ok nmX3 hown hK hP hD hS 0 rfl rfl 4 (by decide) (hts _ fl_X3_27) (fun _ h9 => h9) rfl hin rfl (by decide +kernel) rfl rfl (Nat.le_of_ble_eq_true rfl) dX3_init_32 (fun H locs hP hD hS => ?_)
  have hP : va_P D vwCl [(h0, .inr (3, [.ref hs, .ref hp, .ref hn, .ref q1, .ref q3])), (q1, .inl (c2, 48, .inr (.inl (fun _ => 0)))), (q3, .inl (c4, 48, .inl (fun _ => 0)))] H := hP
  have hD : va_D A [(h0, .inr (3, [.ref hs, .ref hp, .ref hn, .ref q1, .ref q3])), (q1, .inl (c2, 48, .inr (.inl (fun _ => 0)))), (q3, .inl (c4, 48, .inl (fun _ => 0)))] := hD
  have hK9 := hK.sub (tys' := [(c2, .long), (c4, .int)]) [0, 1] rfl
  refine W.widen (k := 2) (n := 96) (by omega) (by omega) ?_
  exact W.vret hx hb hr (fun t ht hW => ⟨⟨(), rfl, trivial, q1, q3, c2, c4, by rw [ht]; exact hP, va_K.moved hW.alike hK9, hD⟩, hS.F ht⟩) hS.2.2 dX3_init_35
set_option maxHeartbeats 4000000 in
set_option maxRecDepth 100000 in
theorem ki_X0 (l : Launch) (D : va_G) (h0 sz : Nat) (hs : Nat) (hp : Nat) (hn : Nat) (xN : Nat)  : Met l yX0_init (Cond.code yX0_init cX0_init 5 none :: q_T) ({ frames := 1, cells := 0, slots := 0, locals := 12 } : Room) (va_Pc [.ref h0, .ref hs, .ref hp, .ref hn, .int (nI xN)] (fun U => U.heap.size = sz ∧ va_P D vwCl [(h0, .inr (0, [.null, .null, .null, .int 0]))] U.heap ∧ va_K D vwCl [] U ∧ va_D (fun _ => True) [(h0, .inr (0, [.null, .null, .null, .int 0]))])) (va_Qv (fun _ : Unit => True) (fun _ t => va_P D vwCl [(h0, .inr (0, [.ref hs, .ref hp, .ref hn, .int (nI xN)]))] t.heap ∧ va_K D vwCl [] t ∧ va_D (va_A [(h0, .inr (0, [.null, .null, .null, .int 0]))] sz) [(h0, .inr (0, [.ref hs, .ref hp, .ref hn, .int (nI xN)]))]) (va_A [(h0, .inr (0, [.null, .null, .null, .int 0]))] sz)) 0 0 (va_A [(h0, .inr (0, [.null, .null, .null, .int 0]))] sz) := by
  refine Met.ofW (cc := cX0_init) (maxL := 5) (ret := none) (by decide) rfl ?_
  intro p e s m args below meth c s₁ Bd hml hv
  obtain ⟨rfl, hsz, hP, hK, hD0⟩ := hv
  have hx := Bd.exec
  have hb := Bd.bytes
  have hr := Bd.returns
  have hts := q_ts (atoms_spec (ws := Cond.code yX0_init cX0_init 5 none :: q_T) Bd.pre)
  have hown : s.vm.findClass RX0 = some m.cls := findClass_of_methodNamed Bd.named
  have hlocks := Bd.notSynchronized
  have hin : meth.name = "<init>" := (name_of_methodNamed Bd.named Bd.method).1
  subst hsz
  have hD := hD0.self (sz := s.heap.size)
  generalize hAe : va_A [(h0, .inr (0, [.null, .null, .null, .int 0]))] s.heap.size = A at hD ⊢
  have hA : ∀ q : Nat, s.heap.size ≤ q → A q := fun q h => by rw [← hAe]; exact Or.inr h
  have hS : va_S A s.heap s.heap [] := va_S.rf
  have hl := lv_entry ([.ref h0, .ref hs, .ref hp, .ref hn, .int (nI xN)]) (n := 5) (Nat.le_of_ble_eq_true rfl)
  rw [lg_entry_eq]
  generalize (lg_sl ([.ref h0, .ref hs, .ref hp, .ref hn, .int (nI xN)]) ++ List.replicate (5 - (lg_sl ([.ref h0, .ref hs, .ref hp, .ref hn, .int (nI xN)])).length) Slot.unset).toArray = ls at hl ⊢
  have hl : lv_has ls 5 [(0, .ref h0), (1, .ref hs), (2, .ref hp), (3, .ref hn), (4, .int (nI xN))] := hl
  refine lv_aload_n hx hb dX0_init_0 rfl (lv_at hl 0 rfl) ?_
  refine W.objInit hx hb hown (hts _ ol_X0_5) (hts _ oi_i) (hts _ oi_c) rfl (by rw [hml]; exact hl.1) rfl dX0_init_1 (Nat.le_of_ble_eq_true rfl) (Nat.le_of_ble_eq_true rfl) ?_
  refine W.eq (g2 := F0 m 4 ls []) rfl ?_
  refine lv_aload_n hx hb dX0_init_4 rfl (lv_at hl 0 rfl) ?_
  refine lv_aload_n hx hb dX0_init_5 rfl (lv_at hl 1 rfl) ?_
  refine va_putF (D := D) (ci := 0) (v := .ref hs) (ty := .object "ShingleHouse$Store") (C := RX0) (T := TX0) (N := 4) hx hb hts inT_X0 tyX0 tyX0_ok nmX0 hown hK hP hD hS 0 rfl rfl 0 (by decide) (hts _ fl_X0_11) (fun _ h9 => h9) rfl hin rfl (by decide +kernel) rfl rfl (Nat.le_of_ble_eq_true rfl) dX0_init_6 (fun H locs hP hD hS => ?_)
  have hP : va_P D vwCl [(h0, .inr (0, [.ref hs, .null, .null, .int 0]))] H := hP
  have hD : va_D A [(h0, .inr (0, [.ref hs, .null, .null, .int 0]))] := hD
  refine lv_aload_n hx hb dX0_init_9 rfl (lv_at hl 0 rfl) ?_
  refine lv_aload_n hx hb dX0_init_10 rfl (lv_at hl 2 rfl) ?_
  refine va_putF (D := D) (ci := 0) (v := .ref hp) (ty := .object "ShingleHouse$Space") (C := RX0) (T := TX0) (N := 4) hx hb hts inT_X0 tyX0 tyX0_ok nmX0 hown hK hP hD hS 0 rfl rfl 1 (by decide) (hts _ fl_X0_15) (fun _ h9 => h9) rfl hin rfl (by decide +kernel) rfl rfl (Nat.le_of_ble_eq_true rfl) dX0_init_11 (fun H locs hP hD hS => ?_)
  have hP : va_P D vwCl [(h0, .inr (0, [.ref hs, .ref hp, .null, .int 0]))] H := hP
  have hD : va_D A [(h0, .inr (0, [.ref hs, .ref hp, .null, .int 0]))] := hD
  refine lv_aload_n hx hb dX0_init_14 rfl (lv_at hl 0 rfl) ?_
  refine lv_aload_n hx hb dX0_init_15 rfl (lv_at hl 3 rfl) ?_
  refine va_putF (D := D) (ci := 0) (v := .ref hn) (ty := .object "ShingleHouse$Nodes") (C := RX0) (T := TX0) (N := 4) hx hb hts inT_X0 tyX0 tyX0_ok nmX0 hown hK hP hD hS 0 rfl rfl 2 (by decide) (hts _ fl_X0_19) (fun _ h9 => h9) rfl hin rfl (by decide +kernel) rfl rfl (Nat.le_of_ble_eq_true rfl) dX0_init_16 (fun H locs hP hD hS => ?_)
  have hP : va_P D vwCl [(h0, .inr (0, [.ref hs, .ref hp, .ref hn, .int 0]))] H := hP
  have hD : va_D A [(h0, .inr (0, [.ref hs, .ref hp, .ref hn, .int 0]))] := hD
  refine lv_aload_n hx hb dX0_init_19 rfl (lv_at hl 0 rfl) ?_
  refine lv_iload hx hb dX0_init_20 (lv_at hl 4 rfl) ?_
  refine va_putF (D := D) (ci := 0) (v := .int (nI xN)) (ty := .int) (C := RX0) (T := TX0) (N := 4) hx hb hts inT_X0 tyX0 tyX0_ok nmX0 hown hK hP hD hS 0 rfl rfl 3 (by decide) (hts _ fl_X0_23) (fun _ h9 => h9) rfl hin rfl (by decide +kernel) rfl rfl (Nat.le_of_ble_eq_true rfl) dX0_init_22 (fun H locs hP hD hS => ?_)
  have hP : va_P D vwCl [(h0, .inr (0, [.ref hs, .ref hp, .ref hn, .int (nI xN)]))] H := hP
  have hD : va_D A [(h0, .inr (0, [.ref hs, .ref hp, .ref hn, .int (nI xN)]))] := hD
  have hK9 := hK.sub (tys' := []) [] rfl
  refine W.widen (k := 0) (n := 0) (by omega) (by omega) ?_
  exact W.vret hx hb hr (fun t ht hW => ⟨⟨(), rfl, trivial, by rw [ht]; exact hP, va_K.moved hW.alike hK9, hD⟩, hS.F ht⟩) hS.2.2 dX0_init_25
set_option maxHeartbeats 4000000 in
set_option maxRecDepth 100000 in
theorem ki_X9 (l : Launch) (D : va_G) (h0 sz : Nat) (hs : Nat) (hn : Nat) (hf : Nat) (ht : Nat)  : Met l yX9_init (Cond.code yX9_init cX9_init 5 none :: q_T) ({ frames := 1, cells := 2, slots := 18, locals := 12 } : Room) (va_Pc [.ref h0, .ref hs, .ref hn, .ref hf, .ref ht] (fun U => U.heap.size = sz ∧ va_P D vwCl [(h0, .inr (9, [.null, .null, .null, .null, .null, .null, .int 0, .int 0, .int 0, .int 0, .int 0, .int 0]))] U.heap ∧ va_K D vwCl [] U ∧ va_D (fun _ => True) [(h0, .inr (9, [.null, .null, .null, .null, .null, .null, .int 0, .int 0, .int 0, .int 0, .int 0, .int 0]))])) (va_Qv (fun _ : Unit => True) (fun _ t => ∃ (q1 : Nat) (q3 : Nat) (c2 : ClassId) (c4 : ClassId), va_P D vwCl [(h0, .inr (9, [.ref hs, .ref hn, .ref hf, .ref ht, .ref q1, .ref q3, .int 0, .int 0, .int 0, .int 0, .int 0, .int 0])), (q1, .inl (c2, 9, .inl (fun _ => 0))), (q3, .inl (c4, 9, .inl (fun _ => 0)))] t.heap ∧ va_K D vwCl [(c2, .int), (c4, .int)] t ∧ va_D (va_A [(h0, .inr (9, [.null, .null, .null, .null, .null, .null, .int 0, .int 0, .int 0, .int 0, .int 0, .int 0]))] sz) [(h0, .inr (9, [.ref hs, .ref hn, .ref hf, .ref ht, .ref q1, .ref q3, .int 0, .int 0, .int 0, .int 0, .int 0, .int 0])), (q1, .inl (c2, 9, .inl (fun _ => 0))), (q3, .inl (c4, 9, .inl (fun _ => 0)))]) (va_A [(h0, .inr (9, [.null, .null, .null, .null, .null, .null, .int 0, .int 0, .int 0, .int 0, .int 0, .int 0]))] sz)) 2 18 (va_A [(h0, .inr (9, [.null, .null, .null, .null, .null, .null, .int 0, .int 0, .int 0, .int 0, .int 0, .int 0]))] sz) := by
  refine Met.ofW (cc := cX9_init) (maxL := 5) (ret := none) (by decide) rfl ?_
  intro p e s m args below meth c s₁ Bd hml hv
  obtain ⟨rfl, hsz, hP, hK, hD0⟩ := hv
  have hx := Bd.exec
  have hb := Bd.bytes
  have hr := Bd.returns
  have hts := q_ts (atoms_spec (ws := Cond.code yX9_init cX9_init 5 none :: q_T) Bd.pre)
  have hown : s.vm.findClass RX9 = some m.cls := findClass_of_methodNamed Bd.named
  have hlocks := Bd.notSynchronized
  have hin : meth.name = "<init>" := (name_of_methodNamed Bd.named Bd.method).1
  subst hsz
  have hD := hD0.self (sz := s.heap.size)
  generalize hAe : va_A [(h0, .inr (9, [.null, .null, .null, .null, .null, .null, .int 0, .int 0, .int 0, .int 0, .int 0, .int 0]))] s.heap.size = A at hD ⊢
  have hA : ∀ q : Nat, s.heap.size ≤ q → A q := fun q h => by rw [← hAe]; exact Or.inr h
  have hS : va_S A s.heap s.heap [] := va_S.rf
  have hl := lv_entry ([.ref h0, .ref hs, .ref hn, .ref hf, .ref ht]) (n := 5) (Nat.le_of_ble_eq_true rfl)
  rw [lg_entry_eq]
  generalize (lg_sl ([.ref h0, .ref hs, .ref hn, .ref hf, .ref ht]) ++ List.replicate (5 - (lg_sl ([.ref h0, .ref hs, .ref hn, .ref hf, .ref ht])).length) Slot.unset).toArray = ls at hl ⊢
  have hl : lv_has ls 5 [(0, .ref h0), (1, .ref hs), (2, .ref hn), (3, .ref hf), (4, .ref ht)] := hl
  refine lv_aload_n hx hb dX9_init_0 rfl (lv_at hl 0 rfl) ?_
  refine W.objInit hx hb hown (hts _ ol_X9_3) (hts _ oi_i) (hts _ oi_c) rfl (by rw [hml]; exact hl.1) rfl dX9_init_1 (Nat.le_of_ble_eq_true rfl) (Nat.le_of_ble_eq_true rfl) ?_
  refine W.eq (g2 := F0 m 4 ls []) rfl ?_
  refine lv_aload_n hx hb dX9_init_4 rfl (lv_at hl 0 rfl) ?_
  refine lv_aload_n hx hb dX9_init_5 rfl (lv_at hl 1 rfl) ?_
  refine va_putF (D := D) (ci := 9) (v := .ref hs) (ty := .object "ShingleHouse$Store") (C := RX9) (T := TX9) (N := 12) hx hb hts inT_X9 tyX9 tyX9_ok nmX9 hown hK hP hD hS 0 rfl rfl 0 (by decide) (hts _ fl_X9_9) (fun _ h9 => h9) rfl hin rfl (by decide +kernel) rfl rfl (Nat.le_of_ble_eq_true rfl) dX9_init_6 (fun H locs hP hD hS => ?_)
  have hP : va_P D vwCl [(h0, .inr (9, [.ref hs, .null, .null, .null, .null, .null, .int 0, .int 0, .int 0, .int 0, .int 0, .int 0]))] H := hP
  have hD : va_D A [(h0, .inr (9, [.ref hs, .null, .null, .null, .null, .null, .int 0, .int 0, .int 0, .int 0, .int 0, .int 0]))] := hD
  refine lv_aload_n hx hb dX9_init_9 rfl (lv_at hl 0 rfl) ?_
  refine lv_aload_n hx hb dX9_init_10 rfl (lv_at hl 2 rfl) ?_
  refine va_putF (D := D) (ci := 9) (v := .ref hn) (ty := .object "ShingleHouse$Nodes") (C := RX9) (T := TX9) (N := 12) hx hb hts inT_X9 tyX9 tyX9_ok nmX9 hown hK hP hD hS 0 rfl rfl 1 (by decide) (hts _ fl_X9_15) (fun _ h9 => h9) rfl hin rfl (by decide +kernel) rfl rfl (Nat.le_of_ble_eq_true rfl) dX9_init_11 (fun H locs hP hD hS => ?_)
  have hP : va_P D vwCl [(h0, .inr (9, [.ref hs, .ref hn, .null, .null, .null, .null, .int 0, .int 0, .int 0, .int 0, .int 0, .int 0]))] H := hP
  have hD : va_D A [(h0, .inr (9, [.ref hs, .ref hn, .null, .null, .null, .null, .int 0, .int 0, .int 0, .int 0, .int 0, .int 0]))] := hD
  refine lv_aload_n hx hb dX9_init_14 rfl (lv_at hl 0 rfl) ?_
  refine lv_aload_n hx hb dX9_init_15 rfl (lv_at hl 3 rfl) ?_
  refine va_putF (D := D) (ci := 9) (v := .ref hf) (ty := .object "ShingleHouse$Folders") (C := RX9) (T := TX9) (N := 12) hx hb hts inT_X9 tyX9 tyX9_ok nmX9 hown hK hP hD hS 0 rfl rfl 2 (by decide) (hts _ fl_X9_19) (fun _ h9 => h9) rfl hin rfl (by decide +kernel) rfl rfl (Nat.le_of_ble_eq_true rfl) dX9_init_16 (fun H locs hP hD hS => ?_)
  have hP : va_P D vwCl [(h0, .inr (9, [.ref hs, .ref hn, .ref hf, .null, .null, .null, .int 0, .int 0, .int 0, .int 0, .int 0, .int 0]))] H := hP
  have hD : va_D A [(h0, .inr (9, [.ref hs, .ref hn, .ref hf, .null, .null, .null, .int 0, .int 0, .int 0, .int 0, .int 0, .int 0]))] := hD
  refine lv_aload_n hx hb dX9_init_19 rfl (lv_at hl 0 rfl) ?_
  refine lv_aload hx hb dX9_init_20 (lv_at hl 4 rfl) ?_
  refine va_putF (D := D) (ci := 9) (v := .ref ht) (ty := .object "ShingleHouse$Tape") (C := RX9) (T := TX9) (N := 12) hx hb hts inT_X9 tyX9 tyX9_ok nmX9 hown hK hP hD hS 0 rfl rfl 3 (by decide) (hts _ fl_X9_23) (fun _ h9 => h9) rfl hin rfl (by decide +kernel) rfl rfl (Nat.le_of_ble_eq_true rfl) dX9_init_22 (fun H locs hP hD hS => ?_)
  have hP : va_P D vwCl [(h0, .inr (9, [.ref hs, .ref hn, .ref hf, .ref ht, .null, .null, .int 0, .int 0, .int 0, .int 0, .int 0, .int 0]))] H := hP
  have hD : va_D A [(h0, .inr (9, [.ref hs, .ref hn, .ref hf, .ref ht, .null, .null, .int 0, .int 0, .int 0, .int 0, .int 0, .int 0]))] := hD
  refine lv_aload_n hx hb dX9_init_25 rfl (lv_at hl 0 rfl) ?_
  refine lv_bipush (v := 9) hx hb dX9_init_26 (by decide) ?_
  refine va_newa (atype := .int) (ty := .int) (N' := 9) (a0 := (9, .inl (fun _ => 0))) hx hb (hts _ ac_int) rfl hK hP hD hS hA (fun _ => rfl) (by decide) (by decide) (by decide) (Nat.le_of_ble_eq_true rfl) (Nat.le_of_ble_eq_true rfl) dX9_init_28 (fun q1 c2 H hK hP hD hS => ?_)
  have hP : va_P D vwCl [(h0, .inr (9, [.ref hs, .ref hn, .ref hf, .ref ht, .null, .null, .int 0, .int 0, .int 0, .int 0, .int 0, .int 0])), (q1, .inl (c2, 9, .inl (fun _ => 0)))] H := hP
  have hD : va_D A [(h0, .inr (9, [.ref hs, .ref hn, .ref hf, .ref ht, .null, .null, .int 0, .int 0, .int 0, .int 0, .int 0, .int 0])), (q1, .inl (c2, 9, .inl (fun _ => 0)))] := hD
  have hK : va_K D vwCl [(c2, .int)] s := hK
  refine W.widen (k := 1) (n := 9) (by omega) (by omega) ?_
  refine va_putF (D := D) (ci := 9) (v := .ref q1) (ty := .array .int) (C := RX9) (T := TX9) (N := 12) hx hb hts inT_X9 tyX9 tyX9_ok nmX9 hown hK hP hD hS 0 rfl rfl 4 (by decide) (hts _ fl_X9_27) (fun _ h9 => h9) rfl hin rfl (by decide +kernel) rfl rfl (Nat.le_of_ble_eq_true rfl) dX9_init_30 (fun H locs hP hD hS => ?_)
  have hP : va_P D vwCl [(h0, .inr (9, [.ref hs, .ref hn, .ref hf, .ref ht, .ref q1, .null, .int 0, .int 0, .int 0, .int 0, .int 0, .int 0])), (q1, .inl (c2, 9, .inl (fun _ => 0)))] H := hP
  have hD : va_D A [(h0, .inr (9, [.ref hs, .ref hn, .ref hf, .ref ht, .ref q1, .null, .int 0, .int 0, .int 0, .int 0, .int 0, .int 0])), (q1, .inl (c2, 9, .inl (fun _ => 0)))] := hD
  refine lv_aload_n hx hb dX9_init_33 rfl (lv_at hl 0 rfl) ?_
  refine lv_bipush (v := 9) hx hb dX9_init_34 (by decide) ?_
  refine va_newa (atype := .int) (ty := .int) (N' := 9) (a0 := (9, .inl (fun _ => 0))) hx hb (hts _ ac_int) rfl hK hP hD hS hA (fun _ => rfl) (by decide) (by decide) (by decide) (Nat.le_of_ble_eq_true rfl) (Nat.le_of_ble_eq_true rfl) dX9_init_36 (fun q3 c4 H hK hP hD hS => ?_)
  have hP : va_P D vwCl [(h0, .inr (9, [.ref hs, .ref hn, .ref hf, .ref ht, .ref q1, .null, .int 0, .int 0, .int 0, .int 0, .int 0, .int 0])), (q1, .inl (c2, 9, .inl (fun _ => 0))), (q3, .inl (c4, 9, .inl (fun _ => 0)))] H := hP
  have hD : va_D A [(h0, .inr (9, [.ref hs, .ref hn, .ref hf, .ref ht, .ref q1, .null, .int 0, .int 0, .int 0, .int 0, .int 0, .int 0])), (q1, .inl (c2, 9, .inl (fun _ => 0))), (q3, .inl (c4, 9, .inl (fun _ => 0)))] := hD
  have hK : va_K D vwCl [(c2, .int), (c4, .int)] s := hK
  refine W.widen (k := 2) (n := 18) (by omega) (by omega) ?_
  refine va_putF (D := D) (ci := 9) (v := .ref q3) (ty := .array .int) (C := RX9) (T := TX9) (N := 12) hx hb hts inT_X9 tyX9 tyX9_ok nmX9 hown hK hP hD hS 0 rfl rfl 5 (by decide) (hts _ fl_X9_31) (fun _ h9 => h9) rfl hin rfl (by decide +kernel) rfl rfl (Nat.le_of_ble_eq_true rfl) dX9_init_38 (fun H locs hP hD hS => ?_)
  have hP : va_P D vwCl [(h0, .inr (9, [.ref hs, .ref hn, .ref hf, .ref ht, .ref q1, .ref q3, .int 0, .int 0, .int 0, .int 0, .int 0, .int 0])), (q1, .inl (c2, 9, .inl (fun _ => 0))), (q3, .inl (c4, 9, .inl (fun _ => 0)))] H := hP
  have hD : va_D A [(h0, .inr (9, [.ref hs, .ref hn, .ref hf, .ref ht, .ref q1, .ref q3, .int 0, .int 0, .int 0, .int 0, .int 0, .int 0])), (q1, .inl (c2, 9, .inl (fun _ => 0))), (q3, .inl (c4, 9, .inl (fun _ => 0)))] := hD
  have hK9 := hK.sub (tys' := [(c2, .int), (c4, .int)]) [0, 1] rfl
  refine W.widen (k := 2) (n := 18) (by omega) (by omega) ?_
  exact W.vret hx hb hr (fun t ht hW => ⟨⟨(), rfl, trivial, q1, q3, c2, c4, by rw [ht]; exact hP, va_K.moved hW.alike hK9, hD⟩, hS.F ht⟩) hS.2.2 dX9_init_41
set_option maxHeartbeats 4000000 in
set_option maxRecDepth 100000 in
theorem ki_X1 (l : Launch) (D : va_G) (h0 sz : Nat) (hd : Nat) (hs : Nat) (hp : Nat) (hn : Nat) (dB : Nat) (dT : Nat) (dS : Nat) (dW : Nat) (dL : Nat) (dC : Nat) (qc : Nat) (ql : Nat) (hh0 : dL ≤ 2048) : Met l yX1_init (Cond.code yX1_init cX1_init 5 none :: q_T) ({ frames := 1, cells := 3, slots := 2176, locals := 12 } : Room) (va_Pc [.ref h0, .ref hd, .ref hs, .ref hp, .ref hn] (fun U => U.heap.size = sz ∧ va_P D vwCl [(h0, .inr (1, [.null, .null, .null, .null, .null, .null, .null, .int 0])), (hd, .inr (2, [.int (nI dB), .int (nI dT), .int (nI dS), .int (nI dW), .int (nI dL), .int (nI dC), .ref qc, .ref ql, .int 1, .int (-1), .int 0, .int 0, .int 0, .int 0, .int 0]))] U.heap ∧ va_K D vwCl [] U ∧ va_D (fun _ => True) [(h0, .inr (1, [.null, .null, .null, .null, .null, .null, .null, .int 0])), (hd, .inr (2, [.int (nI dB), .int (nI dT), .int (nI dS), .int (nI dW), .int (nI dL), .int (nI dC), .ref qc, .ref ql, .int 1, .int (-1), .int 0, .int 0, .int 0, .int 0, .int 0]))])) (va_Qv (fun _ : Unit => True) (fun _ t => ∃ (q1 : Nat) (q3 : Nat) (q5 : Nat) (c2 : ClassId) (c4 : ClassId) (c6 : ClassId), va_P D vwCl [(h0, .inr (1, [.ref hd, .ref hs, .ref hp, .ref hn, .ref q1, .ref q3, .ref q5, .int 0])), (hd, .inr (2, [.int (nI dB), .int (nI dT), .int (nI dS), .int (nI dW), .int (nI dL), .int (nI dC), .ref qc, .ref ql, .int 1, .int (-1), .int 0, .int 0, .int 0, .int 0, .int 0])), (q1, .inl (c2, dL, .inl (fun _ => 0))), (q3, .inl (c4, 64, .inl (fun _ => 0))), (q5, .inl (c6, 64, .inl (fun _ => 0)))] t.heap ∧ va_K D vwCl [(c2, .int), (c4, .int), (c6, .int)] t ∧ va_D (va_A [(h0, .inr (1, [.null, .null, .null, .null, .null, .null, .null, .int 0])), (hd, .inr (2, [.int (nI dB), .int (nI dT), .int (nI dS), .int (nI dW), .int (nI dL), .int (nI dC), .ref qc, .ref ql, .int 1, .int (-1), .int 0, .int 0, .int 0, .int 0, .int 0]))] sz) [(h0, .inr (1, [.ref hd, .ref hs, .ref hp, .ref hn, .ref q1, .ref q3, .ref q5, .int 0])), (hd, .inr (2, [.int (nI dB), .int (nI dT), .int (nI dS), .int (nI dW), .int (nI dL), .int (nI dC), .ref qc, .ref ql, .int 1, .int (-1), .int 0, .int 0, .int 0, .int 0, .int 0])), (q1, .inl (c2, dL, .inl (fun _ => 0))), (q3, .inl (c4, 64, .inl (fun _ => 0))), (q5, .inl (c6, 64, .inl (fun _ => 0)))]) (va_A [(h0, .inr (1, [.null, .null, .null, .null, .null, .null, .null, .int 0])), (hd, .inr (2, [.int (nI dB), .int (nI dT), .int (nI dS), .int (nI dW), .int (nI dL), .int (nI dC), .ref qc, .ref ql, .int 1, .int (-1), .int 0, .int 0, .int 0, .int 0, .int 0]))] sz)) 3 2176 (va_A [(h0, .inr (1, [.null, .null, .null, .null, .null, .null, .null, .int 0])), (hd, .inr (2, [.int (nI dB), .int (nI dT), .int (nI dS), .int (nI dW), .int (nI dL), .int (nI dC), .ref qc, .ref ql, .int 1, .int (-1), .int 0, .int 0, .int 0, .int 0, .int 0]))] sz) := by
  refine Met.ofW (cc := cX1_init) (maxL := 5) (ret := none) (by decide) rfl ?_
  intro p e s m args below meth c s₁ Bd hml hv
  obtain ⟨rfl, hsz, hP, hK, hD0⟩ := hv
  have hx := Bd.exec
  have hb := Bd.bytes
  have hr := Bd.returns
  have hts := q_ts (atoms_spec (ws := Cond.code yX1_init cX1_init 5 none :: q_T) Bd.pre)
  have hown : s.vm.findClass RX1 = some m.cls := findClass_of_methodNamed Bd.named
  have hlocks := Bd.notSynchronized
  have hin : meth.name = "<init>" := (name_of_methodNamed Bd.named Bd.method).1
  subst hsz
  have hD := hD0.self (sz := s.heap.size)
  generalize hAe : va_A [(h0, .inr (1, [.null, .null, .null, .null, .null, .null, .null, .int 0])), (hd, .inr (2, [.int (nI dB), .int (nI dT), .int (nI dS), .int (nI dW), .int (nI dL), .int (nI dC), .ref qc, .ref ql, .int 1, .int (-1), .int 0, .int 0, .int 0, .int 0, .int 0]))] s.heap.size = A at hD ⊢
  have hA : ∀ q : Nat, s.heap.size ≤ q → A q := fun q h => by rw [← hAe]; exact Or.inr h
  have hS : va_S A s.heap s.heap [] := va_S.rf
  have hl := lv_entry ([.ref h0, .ref hd, .ref hs, .ref hp, .ref hn]) (n := 5) (Nat.le_of_ble_eq_true rfl)
  rw [lg_entry_eq]
  generalize (lg_sl ([.ref h0, .ref hd, .ref hs, .ref hp, .ref hn]) ++ List.replicate (5 - (lg_sl ([.ref h0, .ref hd, .ref hs, .ref hp, .ref hn])).length) Slot.unset).toArray = ls at hl ⊢
  have hl : lv_has ls 5 [(0, .ref h0), (1, .ref hd), (2, .ref hs), (3, .ref hp), (4, .ref hn)] := hl
  refine lv_aload_n hx hb dX1_init_0 rfl (lv_at hl 0 rfl) ?_
  refine W.objInit hx hb hown (hts _ ol_X1_3) (hts _ oi_i) (hts _ oi_c) rfl (by rw [hml]; exact hl.1) rfl dX1_init_1 (Nat.le_of_ble_eq_true rfl) (Nat.le_of_ble_eq_true rfl) ?_
  refine W.eq (g2 := F0 m 4 ls []) rfl ?_
  refine lv_aload_n hx hb dX1_init_4 rfl (lv_at hl 0 rfl) ?_
  refine lv_aload_n hx hb dX1_init_5 rfl (lv_at hl 1 rfl) ?_
  refine va_putF (D := D) (ci := 1) (v := .ref hd) (ty := .object "ShingleHouse$Disk") (C := RX1) (T := TX1) (N := 8) hx hb hts inT_X1 tyX1 tyX1_ok nmX1 hown hK hP hD hS 0 rfl rfl 0 (by decide) (hts _ fl_X1_9) (fun _ h9 => h9) rfl hin rfl (by decide +kernel) rfl rfl (Nat.le_of_ble_eq_true rfl) dX1_init_6 (fun H locs hP hD hS => ?_)
  have hP : va_P D vwCl [(h0, .inr (1, [.ref hd, .null, .null, .null, .null, .null, .null, .int 0])), (hd, .inr (2, [.int (nI dB), .int (nI dT), .int (nI dS), .int (nI dW), .int (nI dL), .int (nI dC), .ref qc, .ref ql, .int 1, .int (-1), .int 0, .int 0, .int 0, .int 0, .int 0]))] H := hP
  have hD : va_D A [(h0, .inr (1, [.ref hd, .null, .null, .null, .null, .null, .null, .int 0])), (hd, .inr (2, [.int (nI dB), .int (nI dT), .int (nI dS), .int (nI dW), .int (nI dL), .int (nI dC), .ref qc, .ref ql, .int 1, .int (-1), .int 0, .int 0, .int 0, .int 0, .int 0]))] := hD
  refine lv_aload_n hx hb dX1_init_9 rfl (lv_at hl 0 rfl) ?_
  refine lv_aload_n hx hb dX1_init_10 rfl (lv_at hl 2 rfl) ?_
  refine va_putF (D := D) (ci := 1) (v := .ref hs) (ty := .object "ShingleHouse$Store") (C := RX1) (T := TX1) (N := 8) hx hb hts inT_X1 tyX1 tyX1_ok nmX1 hown hK hP hD hS 0 rfl rfl 1 (by decide) (hts _ fl_X1_15) (fun _ h9 => h9) rfl hin rfl (by decide +kernel) rfl rfl (Nat.le_of_ble_eq_true rfl) dX1_init_11 (fun H locs hP hD hS => ?_)
  have hP : va_P D vwCl [(h0, .inr (1, [.ref hd, .ref hs, .null, .null, .null, .null, .null, .int 0])), (hd, .inr (2, [.int (nI dB), .int (nI dT), .int (nI dS), .int (nI dW), .int (nI dL), .int (nI dC), .ref qc, .ref ql, .int 1, .int (-1), .int 0, .int 0, .int 0, .int 0, .int 0]))] H := hP
  have hD : va_D A [(h0, .inr (1, [.ref hd, .ref hs, .null, .null, .null, .null, .null, .int 0])), (hd, .inr (2, [.int (nI dB), .int (nI dT), .int (nI dS), .int (nI dW), .int (nI dL), .int (nI dC), .ref qc, .ref ql, .int 1, .int (-1), .int 0, .int 0, .int 0, .int 0, .int 0]))] := hD
  refine lv_aload_n hx hb dX1_init_14 rfl (lv_at hl 0 rfl) ?_
  refine lv_aload_n hx hb dX1_init_15 rfl (lv_at hl 3 rfl) ?_
  refine va_putF (D := D) (ci := 1) (v := .ref hp) (ty := .object "ShingleHouse$Space") (C := RX1) (T := TX1) (N := 8) hx hb hts inT_X1 tyX1 tyX1_ok nmX1 hown hK hP hD hS 0 rfl rfl 2 (by decide) (hts _ fl_X1_19) (fun _ h9 => h9) rfl hin rfl (by decide +kernel) rfl rfl (Nat.le_of_ble_eq_true rfl) dX1_init_16 (fun H locs hP hD hS => ?_)
  have hP : va_P D vwCl [(h0, .inr (1, [.ref hd, .ref hs, .ref hp, .null, .null, .null, .null, .int 0])), (hd, .inr (2, [.int (nI dB), .int (nI dT), .int (nI dS), .int (nI dW), .int (nI dL), .int (nI dC), .ref qc, .ref ql, .int 1, .int (-1), .int 0, .int 0, .int 0, .int 0, .int 0]))] H := hP
  have hD : va_D A [(h0, .inr (1, [.ref hd, .ref hs, .ref hp, .null, .null, .null, .null, .int 0])), (hd, .inr (2, [.int (nI dB), .int (nI dT), .int (nI dS), .int (nI dW), .int (nI dL), .int (nI dC), .ref qc, .ref ql, .int 1, .int (-1), .int 0, .int 0, .int 0, .int 0, .int 0]))] := hD
  refine lv_aload_n hx hb dX1_init_19 rfl (lv_at hl 0 rfl) ?_
  refine lv_aload hx hb dX1_init_20 (lv_at hl 4 rfl) ?_
  refine va_putF (D := D) (ci := 1) (v := .ref hn) (ty := .object "ShingleHouse$Nodes") (C := RX1) (T := TX1) (N := 8) hx hb hts inT_X1 tyX1 tyX1_ok nmX1 hown hK hP hD hS 0 rfl rfl 3 (by decide) (hts _ fl_X1_23) (fun _ h9 => h9) rfl hin rfl (by decide +kernel) rfl rfl (Nat.le_of_ble_eq_true rfl) dX1_init_22 (fun H locs hP hD hS => ?_)
  have hP : va_P D vwCl [(h0, .inr (1, [.ref hd, .ref hs, .ref hp, .ref hn, .null, .null, .null, .int 0])), (hd, .inr (2, [.int (nI dB), .int (nI dT), .int (nI dS), .int (nI dW), .int (nI dL), .int (nI dC), .ref qc, .ref ql, .int 1, .int (-1), .int 0, .int 0, .int 0, .int 0, .int 0]))] H := hP
  have hD : va_D A [(h0, .inr (1, [.ref hd, .ref hs, .ref hp, .ref hn, .null, .null, .null, .int 0])), (hd, .inr (2, [.int (nI dB), .int (nI dT), .int (nI dS), .int (nI dW), .int (nI dL), .int (nI dC), .ref qc, .ref ql, .int 1, .int (-1), .int 0, .int 0, .int 0, .int 0, .int 0]))] := hD
  refine lv_aload_n hx hb dX1_init_25 rfl (lv_at hl 0 rfl) ?_
  refine lv_aload_n hx hb dX1_init_26 rfl (lv_at hl 1 rfl) ?_
  refine va_get (D := D) (ci := 2) (v := .int (nI dL)) (C := RX2) (T := TX2) (N := 15) hx hb hts inT_X2 hown hK hP 1 rfl rfl 4 (by decide) (hts _ fl_X1_27) (fun _ h9 => h9) rfl dX1_init_27 ?_
  have hbd0 : dL ≤ 2048 := by omega
  refine va_newa (atype := .int) (ty := .int) (N' := dL) (a0 := (dL, .inl (fun _ => 0))) hx hb (hts _ ac_int) rfl hK hP hD hS hA (fun _ => rfl) (nI_pos (n := dL) (Nat.lt_of_le_of_lt hbd0 (by decide))) (nI_clamp (n := dL) (Nat.lt_of_le_of_lt hbd0 (by decide))) (Nat.le_trans (Nat.mul_le_mul_right _ hbd0) (by decide)) (Nat.le_of_ble_eq_true rfl) (Nat.le_trans (Nat.add_le_add_left hbd0 _) (Nat.le_of_ble_eq_true rfl)) dX1_init_30 (fun q1 c2 H hK hP hD hS => ?_)
  have hP : va_P D vwCl [(h0, .inr (1, [.ref hd, .ref hs, .ref hp, .ref hn, .null, .null, .null, .int 0])), (hd, .inr (2, [.int (nI dB), .int (nI dT), .int (nI dS), .int (nI dW), .int (nI dL), .int (nI dC), .ref qc, .ref ql, .int 1, .int (-1), .int 0, .int 0, .int 0, .int 0, .int 0])), (q1, .inl (c2, dL, .inl (fun _ => 0)))] H := hP
  have hD : va_D A [(h0, .inr (1, [.ref hd, .ref hs, .ref hp, .ref hn, .null, .null, .null, .int 0])), (hd, .inr (2, [.int (nI dB), .int (nI dT), .int (nI dS), .int (nI dW), .int (nI dL), .int (nI dC), .ref qc, .ref ql, .int 1, .int (-1), .int 0, .int 0, .int 0, .int 0, .int 0])), (q1, .inl (c2, dL, .inl (fun _ => 0)))] := hD
  have hK : va_K D vwCl [(c2, .int)] s := hK
  refine W.widen (k := 1) (n := 2048) (by omega) (by omega) ?_
  refine va_putF (D := D) (ci := 1) (v := .ref q1) (ty := .array .int) (C := RX1) (T := TX1) (N := 8) hx hb hts inT_X1 tyX1 tyX1_ok nmX1 hown hK hP hD hS 0 rfl rfl 4 (by decide) (hts _ fl_X1_33) (fun _ h9 => h9) rfl hin rfl (by decide +kernel) rfl rfl (Nat.le_of_ble_eq_true rfl) dX1_init_32 (fun H locs hP hD hS => ?_)
  have hP : va_P D vwCl [(h0, .inr (1, [.ref hd, .ref hs, .ref hp, .ref hn, .ref q1, .null, .null, .int 0])), (hd, .inr (2, [.int (nI dB), .int (nI dT), .int (nI dS), .int (nI dW), .int (nI dL), .int (nI dC), .ref qc, .ref ql, .int 1, .int (-1), .int 0, .int 0, .int 0, .int 0, .int 0])), (q1, .inl (c2, dL, .inl (fun _ => 0)))] H := hP
  have hD : va_D A [(h0, .inr (1, [.ref hd, .ref hs, .ref hp, .ref hn, .ref q1, .null, .null, .int 0])), (hd, .inr (2, [.int (nI dB), .int (nI dT), .int (nI dS), .int (nI dW), .int (nI dL), .int (nI dC), .ref qc, .ref ql, .int 1, .int (-1), .int 0, .int 0, .int 0, .int 0, .int 0])), (q1, .inl (c2, dL, .inl (fun _ => 0)))] := hD
  refine lv_aload_n hx hb dX1_init_35 rfl (lv_at hl 0 rfl) ?_
  refine lv_bipush (v := 64) hx hb dX1_init_36 (by decide) ?_
  refine va_newa (atype := .int) (ty := .int) (N' := 64) (a0 := (64, .inl (fun _ => 0))) hx hb (hts _ ac_int) rfl hK hP hD hS hA (fun _ => rfl) (by decide) (by decide) (by decide) (Nat.le_of_ble_eq_true rfl) (Nat.le_of_ble_eq_true rfl) dX1_init_38 (fun q3 c4 H hK hP hD hS => ?_)
  have hP : va_P D vwCl [(h0, .inr (1, [.ref hd, .ref hs, .ref hp, .ref hn, .ref q1, .null, .null, .int 0])), (hd, .inr (2, [.int (nI dB), .int (nI dT), .int (nI dS), .int (nI dW), .int (nI dL), .int (nI dC), .ref qc, .ref ql, .int 1, .int (-1), .int 0, .int 0, .int 0, .int 0, .int 0])), (q1, .inl (c2, dL, .inl (fun _ => 0))), (q3, .inl (c4, 64, .inl (fun _ => 0)))] H := hP
  have hD : va_D A [(h0, .inr (1, [.ref hd, .ref hs, .ref hp, .ref hn, .ref q1, .null, .null, .int 0])), (hd, .inr (2, [.int (nI dB), .int (nI dT), .int (nI dS), .int (nI dW), .int (nI dL), .int (nI dC), .ref qc, .ref ql, .int 1, .int (-1), .int 0, .int 0, .int 0, .int 0, .int 0])), (q1, .inl (c2, dL, .inl (fun _ => 0))), (q3, .inl (c4, 64, .inl (fun _ => 0)))] := hD
  have hK : va_K D vwCl [(c2, .int), (c4, .int)] s := hK
  refine W.widen (k := 2) (n := 2112) (by omega) (by omega) ?_
  refine va_putF (D := D) (ci := 1) (v := .ref q3) (ty := .array .int) (C := RX1) (T := TX1) (N := 8) hx hb hts inT_X1 tyX1 tyX1_ok nmX1 hown hK hP hD hS 0 rfl rfl 5 (by decide) (hts _ fl_X1_37) (fun _ h9 => h9) rfl hin rfl (by decide +kernel) rfl rfl (Nat.le_of_ble_eq_true rfl) dX1_init_40 (fun H locs hP hD hS => ?_)
  have hP : va_P D vwCl [(h0, .inr (1, [.ref hd, .ref hs, .ref hp, .ref hn, .ref q1, .ref q3, .null, .int 0])), (hd, .inr (2, [.int (nI dB), .int (nI dT), .int (nI dS), .int (nI dW), .int (nI dL), .int (nI dC), .ref qc, .ref ql, .int 1, .int (-1), .int 0, .int 0, .int 0, .int 0, .int 0])), (q1, .inl (c2, dL, .inl (fun _ => 0))), (q3, .inl (c4, 64, .inl (fun _ => 0)))] H := hP
  have hD : va_D A [(h0, .inr (1, [.ref hd, .ref hs, .ref hp, .ref hn, .ref q1, .ref q3, .null, .int 0])), (hd, .inr (2, [.int (nI dB), .int (nI dT), .int (nI dS), .int (nI dW), .int (nI dL), .int (nI dC), .ref qc, .ref ql, .int 1, .int (-1), .int 0, .int 0, .int 0, .int 0, .int 0])), (q1, .inl (c2, dL, .inl (fun _ => 0))), (q3, .inl (c4, 64, .inl (fun _ => 0)))] := hD
  refine lv_aload_n hx hb dX1_init_43 rfl (lv_at hl 0 rfl) ?_
  refine lv_bipush (v := 64) hx hb dX1_init_44 (by decide) ?_
  refine va_newa (atype := .int) (ty := .int) (N' := 64) (a0 := (64, .inl (fun _ => 0))) hx hb (hts _ ac_int) rfl hK hP hD hS hA (fun _ => rfl) (by decide) (by decide) (by decide) (Nat.le_of_ble_eq_true rfl) (Nat.le_of_ble_eq_true rfl) dX1_init_46 (fun q5 c6 H hK hP hD hS => ?_)
  have hP : va_P D vwCl [(h0, .inr (1, [.ref hd, .ref hs, .ref hp, .ref hn, .ref q1, .ref q3, .null, .int 0])), (hd, .inr (2, [.int (nI dB), .int (nI dT), .int (nI dS), .int (nI dW), .int (nI dL), .int (nI dC), .ref qc, .ref ql, .int 1, .int (-1), .int 0, .int 0, .int 0, .int 0, .int 0])), (q1, .inl (c2, dL, .inl (fun _ => 0))), (q3, .inl (c4, 64, .inl (fun _ => 0))), (q5, .inl (c6, 64, .inl (fun _ => 0)))] H := hP
  have hD : va_D A [(h0, .inr (1, [.ref hd, .ref hs, .ref hp, .ref hn, .ref q1, .ref q3, .null, .int 0])), (hd, .inr (2, [.int (nI dB), .int (nI dT), .int (nI dS), .int (nI dW), .int (nI dL), .int (nI dC), .ref qc, .ref ql, .int 1, .int (-1), .int 0, .int 0, .int 0, .int 0, .int 0])), (q1, .inl (c2, dL, .inl (fun _ => 0))), (q3, .inl (c4, 64, .inl (fun _ => 0))), (q5, .inl (c6, 64, .inl (fun _ => 0)))] := hD
  have hK : va_K D vwCl [(c2, .int), (c4, .int), (c6, .int)] s := hK
  refine W.widen (k := 3) (n := 2176) (by omega) (by omega) ?_
  refine va_putF (D := D) (ci := 1) (v := .ref q5) (ty := .array .int) (C := RX1) (T := TX1) (N := 8) hx hb hts inT_X1 tyX1 tyX1_ok nmX1 hown hK hP hD hS 0 rfl rfl 6 (by decide) (hts _ fl_X1_40) (fun _ h9 => h9) rfl hin rfl (by decide +kernel) rfl rfl (Nat.le_of_ble_eq_true rfl) dX1_init_48 (fun H locs hP hD hS => ?_)
  have hP : va_P D vwCl [(h0, .inr (1, [.ref hd, .ref hs, .ref hp, .ref hn, .ref q1, .ref q3, .ref q5, .int 0])), (hd, .inr (2, [.int (nI dB), .int (nI dT), .int (nI dS), .int (nI dW), .int (nI dL), .int (nI dC), .ref qc, .ref ql, .int 1, .int (-1), .int 0, .int 0, .int 0, .int 0, .int 0])), (q1, .inl (c2, dL, .inl (fun _ => 0))), (q3, .inl (c4, 64, .inl (fun _ => 0))), (q5, .inl (c6, 64, .inl (fun _ => 0)))] H := hP
  have hD : va_D A [(h0, .inr (1, [.ref hd, .ref hs, .ref hp, .ref hn, .ref q1, .ref q3, .ref q5, .int 0])), (hd, .inr (2, [.int (nI dB), .int (nI dT), .int (nI dS), .int (nI dW), .int (nI dL), .int (nI dC), .ref qc, .ref ql, .int 1, .int (-1), .int 0, .int 0, .int 0, .int 0, .int 0])), (q1, .inl (c2, dL, .inl (fun _ => 0))), (q3, .inl (c4, 64, .inl (fun _ => 0))), (q5, .inl (c6, 64, .inl (fun _ => 0)))] := hD
  have hK9 := hK.sub (tys' := [(c2, .int), (c4, .int), (c6, .int)]) [0, 1, 2] rfl
  refine W.widen (k := 3) (n := 2176) (by omega) (by omega) ?_
  exact W.vret hx hb hr (fun t ht hW => ⟨⟨(), rfl, trivial, q1, q3, q5, c2, c4, c6, by rw [ht]; exact hP, va_K.moved hW.alike hK9, hD⟩, hS.F ht⟩) hS.2.2 dX1_init_51
