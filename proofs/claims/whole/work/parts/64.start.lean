set_option maxHeartbeats 4000000 in
set_option maxRecDepth 100000 in
theorem whole_start_of (hpure : lq_Pure) {p : Program} {e : Env} {s : State} {m : MethodId} {below : List Frame} {meth : Method} {c : Code} (l : Launch) {b L : Nat} {xs : Nat → Int32} (hL : L ≤ 452) (C0 : lw_At p s m meth c b L xs) : W p l e room_1 s m #[Value.ref b] below meth c s.heap [] 0 0 (lw_Z below #[Value.ref b] s) (entryFrame m ([Value.ref b] : List Value).toArray 4) := by
  obtain ⟨hx, hb, hr, hml, hown, hts0, hX, hbl, hlocks, hgv⟩ := id C0
  have hts : ∀ w ∈ q_T, w.before #[Value.ref b] s = true := fun w h => hts0 w (List.mem_filter.mp h).1
  have hA : ∀ q : Nat, s.heap.size ≤ q → (fun q : Nat => s.heap.size ≤ q) q := fun _ h => h
  have hbA : ¬ (fun q : Nat => s.heap.size ≤ q) b := Nat.not_le.mpr hbl
  obtain ⟨c0, iS0, hKn0⟩ := u_known (C := RX0) (T := TX0) (N := 4) (n := 4) hts inT_X0 (hts _ it_X0)
  obtain ⟨c1, iS1, hKn1⟩ := u_known (C := RX1) (T := TX1) (N := 8) (n := 8) hts inT_X1 (hts _ it_X1)
  obtain ⟨c2, iS2, hKn2⟩ := u_known (C := RX2) (T := TX2) (N := 15) (n := 15) hts inT_X2 (hts _ it_X2)
  obtain ⟨c3, iS3, hKn3⟩ := u_known (C := RX3) (T := TX3) (N := 5) (n := 5) hts inT_X3 (hts _ it_X3)
  obtain ⟨c4, iS4, hKn4⟩ := u_known (C := RX4) (T := TX4) (N := 2) (n := 2) hts inT_X4 (hts _ it_X4)
  obtain ⟨c5, iS5, hKn5⟩ := u_known (C := RX5) (T := TX5) (N := 6) (n := 6) hts inT_X5 (hts _ it_X5)
  obtain ⟨c6, iS6, hKn6⟩ := u_known (C := RX6) (T := TX6) (N := 9) (n := 9) hts inT_X6 (hts _ it_X6)
  obtain ⟨c7, iS7, hKn7⟩ := u_known (C := RX7) (T := TX7) (N := 2) (n := 2) hts inT_X7 (hts _ it_X7)
  obtain ⟨c8, iS8, hKn8⟩ := u_known (C := RX8) (T := TX8) (N := 15) (n := 15) hts inT_X8 (hts _ it_X8)
  obtain ⟨c9, iS9, hKn9⟩ := u_known (C := RX9) (T := TX9) (N := 12) (n := 12) hts inT_X9 (hts _ it_X9)
  obtain ⟨c10, iS10, hKn10⟩ := u_known (C := RX10) (T := TX10) (N := 11) (n := 11) hts inT_X10 (hts _ it_X10)
  obtain ⟨c11, iS11, hKn11⟩ := u_known (C := RX11) (T := TX11) (N := 72) (n := 72) hts inT_X11 (hts _ it_X11)
  obtain ⟨D, hKc⟩ : ∃ (D : va_G), ∀ (k : Nat) (q : vw_C), vwCl[k]? = some q → u_Kn s q.1 q.2.1 q.2.2 (D.1 k) (D.2 k) := by
    refine ⟨(fun k => [c0, c1, c2, c3, c4, c5, c6, c7, c8, c9, c10, c11].getD k 0, fun k => [iS0, iS1, iS2, iS3, iS4, iS5, iS6, iS7, iS8, iS9, iS10, iS11].getD k (fun _ => 0)), ?_⟩
    intro k q hq
    match k, hq with
    | 0, hq => cases hq; exact hKn0
    | 1, hq => cases hq; exact hKn1
    | 2, hq => cases hq; exact hKn2
    | 3, hq => cases hq; exact hKn3
    | 4, hq => cases hq; exact hKn4
    | 5, hq => cases hq; exact hKn5
    | 6, hq => cases hq; exact hKn6
    | 7, hq => cases hq; exact hKn7
    | 8, hq => cases hq; exact hKn8
    | 9, hq => cases hq; exact hKn9
    | 10, hq => cases hq; exact hKn10
    | 11, hq => cases hq; exact hKn11
    | k + 12, hq => simp [vwCl] at hq
  obtain ⟨B, T, S, C, N, cells1, lat1, um1, Inv, b1, b2, b3, b4, hB, hT, hSh, hC, hfill, hfmt, hinit, hI0, hst, hmono⟩ := hpure (cv_q L xs 0) (cv_q L xs 1) (cv_q L xs 2) (cv_q L xs 3)
  have hS : va_S (fun q : Nat => s.heap.size ≤ q) s.heap s.heap [] := va_S.rf
  have hK : va_K D vwCl [] s := ⟨hKc, fun k q h => by simp at h⟩
  have hP : va_P D vwCl [] s.heap := fun k q h => by simp at h
  have hD : va_D (fun q : Nat => s.heap.size ≤ q) [] := ⟨fun i j p q h => by simp at h, fun k q h => by simp at h⟩
  have hl := lv_entry ([.ref b]) (n := 4) (Nat.le_of_ble_eq_true rfl)
  rw [lg_entry_eq]
  generalize (lg_sl ([.ref b]) ++ List.replicate (4 - (lg_sl ([.ref b])).length) Slot.unset).toArray = ls at hl ⊢
  have hl : lv_has ls 4 [(0, .ref b)] := hl
  refine va_new (ci := 10) (fs := [.null, .null, .null, .null, .null, .null, .null, .null, .null, .null, .int 0]) (C := RX10) (T := TX10) (N := 11) hx hb hts inT_X10 tyX10 tyX10_ok hown (hts _ cl_L_7) (hts _ it_X10) (hts _ in_X10) hK hP hD hS hA rfl (fun j hj => by rcases (show j = 0 ∨ j = 1 ∨ j = 2 ∨ j = 3 ∨ j = 4 ∨ j = 5 ∨ j = 6 ∨ j = 7 ∨ j = 8 ∨ j = 9 ∨ j = 10 by omega) with rfl | rfl | rfl | rfl | rfl | rfl | rfl | rfl | rfl | rfl | rfl <;> rfl) (Nat.le_of_ble_eq_true rfl) (Nat.le_of_ble_eq_true rfl) dL_law_0 (fun qx H hP hD hS => ?_)
  refine W.widen (k := 1) (n := 11) (by omega) (by omega) ?_
  refine lv_dup hx hb dL_law_3 rfl ?_
  refine lv_aload_n hx hb dL_law_4 rfl (lv_at hl 0 rfl) ?_
  refine lv_iconst (v := 0) hx hb dL_law_5 (by decide) ?_
  refine va_calli (va_runS (As := [.ref b, .int (nI 0)]) (rest := [.ref qx, .ref qx]) (n := 2) (bytes := cL_cell) (maxL := 2) ⟨hx, hb, hml, hown, hts⟩ (kt_cell l (b := b) (L := L) (xs := xs) 0 (by decide) hL) ⟨callB_of 2 hts (q_good cw_L_9.1.1) rfl rfl rfl (hts _ cw_L_9.1.2.2.1) (hts _ cw_L_9.1.2.1) cw_L_9.1.2.2.2.2 ⟨Nat.le_of_ble_eq_true rfl, Nat.le_of_ble_eq_true rfl⟩, hts _ cw_L_9.2⟩ ⟨fun a U g mk q => by obtain ⟨q0, q1⟩ := q; exact ⟨q0, va_X.moved (u := U) (U := U.calling g mk a) (Vm.Alike.refl U.vm) q1⟩, fun U hU hW => ⟨rfl, va_X.moved hW.alike (by rw [hU]; exact hX.kept (hS.2.1 b hbl hbA))⟩⟩ rfl rfl hl.1 rfl (lv_room (Nat.le_of_ble_eq_true rfl)) dL_law_6 ⟨Nat.le_of_ble_eq_true rfl, Nat.le_of_ble_eq_true rfl⟩) hS (fun _ _ h => h.elim) (fun _ h => h.elim) (fun r u t H1 locs ht hvm hw hBq hz1 hk1 hS => ?_)
  obtain rfl := hw
  have hP := hP.kept (H1 := H1) (fun k q h => hk1 q.1 ((hP k q h).lt) (fun h => h))
  generalize H1 = H at hP hS ⊢
  refine W.widen (k := 1) (n := 11) (by omega) (by omega) ?_
  refine lv_aload_n hx hb dL_law_9 rfl (lv_at hl 0 rfl) ?_
  refine lv_iconst (v := 1) hx hb dL_law_10 (by decide) ?_
  refine va_calli (va_runS (As := [.ref b, .int (nI 1)]) (rest := [.int (cv_q L xs 0), .ref qx, .ref qx]) (n := 2) (bytes := cL_cell) (maxL := 2) ⟨hx, hb, hml, hown, hts⟩ (kt_cell l (b := b) (L := L) (xs := xs) 1 (by decide) hL) ⟨callB_of 2 hts (q_good cw_L_9.1.1) rfl rfl rfl (hts _ cw_L_9.1.2.2.1) (hts _ cw_L_9.1.2.1) cw_L_9.1.2.2.2.2 ⟨Nat.le_of_ble_eq_true rfl, Nat.le_of_ble_eq_true rfl⟩, hts _ cw_L_9.2⟩ ⟨fun a U g mk q => by obtain ⟨q0, q1⟩ := q; exact ⟨q0, va_X.moved (u := U) (U := U.calling g mk a) (Vm.Alike.refl U.vm) q1⟩, fun U hU hW => ⟨rfl, va_X.moved hW.alike (by rw [hU]; exact hX.kept (hS.2.1 b hbl hbA))⟩⟩ rfl rfl hl.1 rfl (lv_room (Nat.le_of_ble_eq_true rfl)) dL_law_11 ⟨Nat.le_of_ble_eq_true rfl, Nat.le_of_ble_eq_true rfl⟩) hS (fun _ _ h => h.elim) (fun _ h => h.elim) (fun r u t H1 locs ht hvm hw hBq hz1 hk1 hS => ?_)
  obtain rfl := hw
  have hP := hP.kept (H1 := H1) (fun k q h => hk1 q.1 ((hP k q h).lt) (fun h => h))
  generalize H1 = H at hP hS ⊢
  refine W.widen (k := 1) (n := 11) (by omega) (by omega) ?_
  refine lv_aload_n hx hb dL_law_14 rfl (lv_at hl 0 rfl) ?_
  refine lv_iconst (v := 2) hx hb dL_law_15 (by decide) ?_
  refine va_calli (va_runS (As := [.ref b, .int (nI 2)]) (rest := [.int (cv_q L xs 1), .int (cv_q L xs 0), .ref qx, .ref qx]) (n := 2) (bytes := cL_cell) (maxL := 2) ⟨hx, hb, hml, hown, hts⟩ (kt_cell l (b := b) (L := L) (xs := xs) 2 (by decide) hL) ⟨callB_of 2 hts (q_good cw_L_9.1.1) rfl rfl rfl (hts _ cw_L_9.1.2.2.1) (hts _ cw_L_9.1.2.1) cw_L_9.1.2.2.2.2 ⟨Nat.le_of_ble_eq_true rfl, Nat.le_of_ble_eq_true rfl⟩, hts _ cw_L_9.2⟩ ⟨fun a U g mk q => by obtain ⟨q0, q1⟩ := q; exact ⟨q0, va_X.moved (u := U) (U := U.calling g mk a) (Vm.Alike.refl U.vm) q1⟩, fun U hU hW => ⟨rfl, va_X.moved hW.alike (by rw [hU]; exact hX.kept (hS.2.1 b hbl hbA))⟩⟩ rfl rfl hl.1 rfl (lv_room (Nat.le_of_ble_eq_true rfl)) dL_law_16 ⟨Nat.le_of_ble_eq_true rfl, Nat.le_of_ble_eq_true rfl⟩) hS (fun _ _ h => h.elim) (fun _ h => h.elim) (fun r u t H1 locs ht hvm hw hBq hz1 hk1 hS => ?_)
  obtain rfl := hw
  have hP := hP.kept (H1 := H1) (fun k q h => hk1 q.1 ((hP k q h).lt) (fun h => h))
  generalize H1 = H at hP hS ⊢
  refine W.widen (k := 1) (n := 11) (by omega) (by omega) ?_
  refine lv_aload_n hx hb dL_law_19 rfl (lv_at hl 0 rfl) ?_
  refine lv_iconst (v := 3) hx hb dL_law_20 (by decide) ?_
  refine va_calli (va_runS (As := [.ref b, .int (nI 3)]) (rest := [.int (cv_q L xs 2), .int (cv_q L xs 1), .int (cv_q L xs 0), .ref qx, .ref qx]) (n := 2) (bytes := cL_cell) (maxL := 2) ⟨hx, hb, hml, hown, hts⟩ (kt_cell l (b := b) (L := L) (xs := xs) 3 (by decide) hL) ⟨callB_of 2 hts (q_good cw_L_9.1.1) rfl rfl rfl (hts _ cw_L_9.1.2.2.1) (hts _ cw_L_9.1.2.1) cw_L_9.1.2.2.2.2 ⟨Nat.le_of_ble_eq_true rfl, Nat.le_of_ble_eq_true rfl⟩, hts _ cw_L_9.2⟩ ⟨fun a U g mk q => by obtain ⟨q0, q1⟩ := q; exact ⟨q0, va_X.moved (u := U) (U := U.calling g mk a) (Vm.Alike.refl U.vm) q1⟩, fun U hU hW => ⟨rfl, va_X.moved hW.alike (by rw [hU]; exact hX.kept (hS.2.1 b hbl hbA))⟩⟩ rfl rfl hl.1 rfl (lv_room (Nat.le_of_ble_eq_true rfl)) dL_law_21 ⟨Nat.le_of_ble_eq_true rfl, Nat.le_of_ble_eq_true rfl⟩) hS (fun _ _ h => h.elim) (fun _ h => h.elim) (fun r u t H1 locs ht hvm hw hBq hz1 hk1 hS => ?_)
  obtain rfl := hw
  have hP := hP.kept (H1 := H1) (fun k q h => hk1 q.1 ((hP k q h).lt) (fun h => h))
  generalize H1 = H at hP hS ⊢
  refine W.widen (k := 1) (n := 11) (by omega) (by omega) ?_
  have hP : va_P D vwCl [(qx, .inr (10, [.null, .null, .null, .null, .null, .null, .null, .null, .null, .null, .int 0]))] H := hP
  have hD : va_D (fun q : Nat => s.heap.size ≤ q) [(qx, .inr (10, [.null, .null, .null, .null, .null, .null, .null, .null, .null, .null, .int 0]))] := hD
  have hFc := va_free (wc := [(qx, .inr (10, [.null, .null, .null, .null, .null, .null, .null, .null, .null, .null, .int 0]))]) hD hS hA [0] rfl
  refine va_callv (va_runI (As := [.int (cv_q L xs 0), .int (cv_q L xs 1), .int (cv_q L xs 2), .int (cv_q L xs 3)]) (rest := [.ref qx]) (n := 4) (bytes := cX10_init) (maxL := 12) ⟨hx, hb, hml, hown, hts⟩ (ki_X10 l D qx H.size _ _ _ _ B T S C b1 b2 b3 b4 hB hT hSh hC hfill hfmt) ⟨callB_of 4 hts (q_good ci_L_15.1) rfl rfl rfl (hts _ ci_L_15.2.2.1) (hts _ ci_L_15.2.1) ci_L_15.2.2.2.2 ⟨Nat.le_of_ble_eq_true rfl, Nat.le_of_ble_eq_true rfl⟩, rfl, hts _ ci_L_15i⟩ ⟨fun a U g mk q => by obtain ⟨q0, q1, qP, qK, qD⟩ := q; exact ⟨q0, q1, qP, va_K.moved (u := U) (U := U.calling g mk a) (Vm.Alike.refl U.vm) qK, qD⟩, fun U hU hW => ⟨rfl, by rw [hU], by rw [hU]; exact hP, va_K.moved hW.alike hK, hD.weaken (fun _ _ _ _ => trivial)⟩⟩ rfl rfl hl.1 rfl (lv_room (Nat.le_of_ble_eq_true rfl)) dL_law_24 ⟨Nat.le_of_ble_eq_true rfl, Nat.le_of_ble_eq_true rfl⟩) hS (fun q _ h => hFc q h) hFc (fun u t H1 locs ht hvm hw hB1 hz1 hk1 hS => ?_)
  obtain ⟨ax, cx, hax, hP1, hK1, hD1⟩ := hB1
  rw [ht] at hP1
  have hKx := va_K.moved hvm.symm hK1
  have hPx := hP1
  have hDx1 := hD1.weaken (B := fun q : Nat => s.heap.size ≤ q) (fun k q _ h => hFc q.1 h)
  generalize H1 = H at hPx hS ⊢
  refine W.widen (k := 32) (n := 60000) (by omega) (by omega) ?_
  refine lv_astore_n (lv' := [(1, .ref qx), (0, .ref b)]) hx hb dL_law_27 rfl hl (by decide) rfl (fun ls hl => ?_)
  have hP := hPx
  have hD := hDx1
  have hK := hKx
  refine va_new (ci := 11) (fs := [.int 0, .int 0, .int 0, .int 0, .int 0, .int 0, .int 0, .int 0, .int 0, .int 0, .int 0, .int 0, .int 0, .int 0, .int 0, .int 0, .int 0, .null, .null, .null, .null, .int 0, .int 0, .null, .int 0, .int 0, .int 0, .int 0, .int 0, .int 0, .null, .null, .null, .null, .null, .null, .null, .null, .null, .null, .null, .null, .null, .null, .null, .null, .null, .null, .null, .null, .null, .null, .null, .null, .null, .null, .null, .null, .null, .null, .null, .int 0, .null, .int 0, .null, .int 0, .int 0, .null, .null, .int 0, .int 0, .int 0]) (C := RX11) (T := TX11) (N := 72) hx hb hts inT_X11 tyX11 tyX11_ok hown (hts _ cl_L_18) (hts _ it_X11) (hts _ in_X11) hK hP hD hS hA rfl (fun j hj => by rcases (show j = 0 ∨ j = 1 ∨ j = 2 ∨ j = 3 ∨ j = 4 ∨ j = 5 ∨ j = 6 ∨ j = 7 ∨ j = 8 ∨ j = 9 ∨ j = 10 ∨ j = 11 ∨ j = 12 ∨ j = 13 ∨ j = 14 ∨ j = 15 ∨ j = 16 ∨ j = 17 ∨ j = 18 ∨ j = 19 ∨ j = 20 ∨ j = 21 ∨ j = 22 ∨ j = 23 ∨ j = 24 ∨ j = 25 ∨ j = 26 ∨ j = 27 ∨ j = 28 ∨ j = 29 ∨ j = 30 ∨ j = 31 ∨ j = 32 ∨ j = 33 ∨ j = 34 ∨ j = 35 ∨ j = 36 ∨ j = 37 ∨ j = 38 ∨ j = 39 ∨ j = 40 ∨ j = 41 ∨ j = 42 ∨ j = 43 ∨ j = 44 ∨ j = 45 ∨ j = 46 ∨ j = 47 ∨ j = 48 ∨ j = 49 ∨ j = 50 ∨ j = 51 ∨ j = 52 ∨ j = 53 ∨ j = 54 ∨ j = 55 ∨ j = 56 ∨ j = 57 ∨ j = 58 ∨ j = 59 ∨ j = 60 ∨ j = 61 ∨ j = 62 ∨ j = 63 ∨ j = 64 ∨ j = 65 ∨ j = 66 ∨ j = 67 ∨ j = 68 ∨ j = 69 ∨ j = 70 ∨ j = 71 by omega) with rfl | rfl | rfl | rfl | rfl | rfl | rfl | rfl | rfl | rfl | rfl | rfl | rfl | rfl | rfl | rfl | rfl | rfl | rfl | rfl | rfl | rfl | rfl | rfl | rfl | rfl | rfl | rfl | rfl | rfl | rfl | rfl | rfl | rfl | rfl | rfl | rfl | rfl | rfl | rfl | rfl | rfl | rfl | rfl | rfl | rfl | rfl | rfl | rfl | rfl | rfl | rfl | rfl | rfl | rfl | rfl | rfl | rfl | rfl | rfl | rfl | rfl | rfl | rfl | rfl | rfl | rfl | rfl | rfl | rfl | rfl | rfl <;> rfl) (Nat.le_of_ble_eq_true rfl) (Nat.le_of_ble_eq_true rfl) dL_law_28 (fun qm H hP hD hS => ?_)
  refine W.widen (k := 33) (n := 60100) (by omega) (by omega) ?_
  refine lv_dup hx hb dL_law_31 rfl ?_
  refine lv_aload_n hx hb dL_law_32 rfl (lv_at hl 1 rfl) ?_
  refine lv_iconst (v := 0) hx hb dL_law_33 (by decide) ?_
  refine va_calli (va_runS (As := [.ref b, .int (nI 0)]) (rest := [.ref qm, .ref qm]) (n := 2) (bytes := cL_cell) (maxL := 2) ⟨hx, hb, hml, hown, hts⟩ (kt_cell l (b := b) (L := L) (xs := xs) 0 (by decide) hL) ⟨callB_of 2 hts (q_good cw_L_9.1.1) rfl rfl rfl (hts _ cw_L_9.1.2.2.1) (hts _ cw_L_9.1.2.1) cw_L_9.1.2.2.2.2 ⟨Nat.le_of_ble_eq_true rfl, Nat.le_of_ble_eq_true rfl⟩, hts _ cw_L_9.2⟩ ⟨fun a U g mk q => by obtain ⟨q0, q1⟩ := q; exact ⟨q0, va_X.moved (u := U) (U := U.calling g mk a) (Vm.Alike.refl U.vm) q1⟩, fun U hU hW => ⟨rfl, va_X.moved hW.alike (by rw [hU]; exact hX.kept (hS.2.1 b hbl hbA))⟩⟩ rfl rfl hl.1 rfl (lv_room (Nat.le_of_ble_eq_true rfl)) dL_law_34 ⟨Nat.le_of_ble_eq_true rfl, Nat.le_of_ble_eq_true rfl⟩) hS (fun _ _ h => h.elim) (fun _ h => h.elim) (fun r u t H1 locs ht hvm hw hBq hz1 hk1 hS => ?_)
  obtain rfl := hw
  have hP := hP.kept (H1 := H1) (fun k q h => hk1 q.1 ((hP k q h).lt) (fun h => h))
  generalize H1 = H at hP hS ⊢
  refine W.widen (k := 33) (n := 60100) (by omega) (by omega) ?_
  refine lv_aload_n hx hb dL_law_37 rfl (lv_at hl 1 rfl) ?_
  refine lv_iconst (v := 1) hx hb dL_law_38 (by decide) ?_
  refine va_calli (va_runS (As := [.ref b, .int (nI 1)]) (rest := [.int (cv_q L xs 0), .ref qm, .ref qm]) (n := 2) (bytes := cL_cell) (maxL := 2) ⟨hx, hb, hml, hown, hts⟩ (kt_cell l (b := b) (L := L) (xs := xs) 1 (by decide) hL) ⟨callB_of 2 hts (q_good cw_L_9.1.1) rfl rfl rfl (hts _ cw_L_9.1.2.2.1) (hts _ cw_L_9.1.2.1) cw_L_9.1.2.2.2.2 ⟨Nat.le_of_ble_eq_true rfl, Nat.le_of_ble_eq_true rfl⟩, hts _ cw_L_9.2⟩ ⟨fun a U g mk q => by obtain ⟨q0, q1⟩ := q; exact ⟨q0, va_X.moved (u := U) (U := U.calling g mk a) (Vm.Alike.refl U.vm) q1⟩, fun U hU hW => ⟨rfl, va_X.moved hW.alike (by rw [hU]; exact hX.kept (hS.2.1 b hbl hbA))⟩⟩ rfl rfl hl.1 rfl (lv_room (Nat.le_of_ble_eq_true rfl)) dL_law_39 ⟨Nat.le_of_ble_eq_true rfl, Nat.le_of_ble_eq_true rfl⟩) hS (fun _ _ h => h.elim) (fun _ h => h.elim) (fun r u t H1 locs ht hvm hw hBq hz1 hk1 hS => ?_)
  obtain rfl := hw
  have hP := hP.kept (H1 := H1) (fun k q h => hk1 q.1 ((hP k q h).lt) (fun h => h))
  generalize H1 = H at hP hS ⊢
  refine W.widen (k := 33) (n := 60100) (by omega) (by omega) ?_
  refine lv_aload_n hx hb dL_law_42 rfl (lv_at hl 1 rfl) ?_
  refine lv_iconst (v := 2) hx hb dL_law_43 (by decide) ?_
  refine va_calli (va_runS (As := [.ref b, .int (nI 2)]) (rest := [.int (cv_q L xs 1), .int (cv_q L xs 0), .ref qm, .ref qm]) (n := 2) (bytes := cL_cell) (maxL := 2) ⟨hx, hb, hml, hown, hts⟩ (kt_cell l (b := b) (L := L) (xs := xs) 2 (by decide) hL) ⟨callB_of 2 hts (q_good cw_L_9.1.1) rfl rfl rfl (hts _ cw_L_9.1.2.2.1) (hts _ cw_L_9.1.2.1) cw_L_9.1.2.2.2.2 ⟨Nat.le_of_ble_eq_true rfl, Nat.le_of_ble_eq_true rfl⟩, hts _ cw_L_9.2⟩ ⟨fun a U g mk q => by obtain ⟨q0, q1⟩ := q; exact ⟨q0, va_X.moved (u := U) (U := U.calling g mk a) (Vm.Alike.refl U.vm) q1⟩, fun U hU hW => ⟨rfl, va_X.moved hW.alike (by rw [hU]; exact hX.kept (hS.2.1 b hbl hbA))⟩⟩ rfl rfl hl.1 rfl (lv_room (Nat.le_of_ble_eq_true rfl)) dL_law_44 ⟨Nat.le_of_ble_eq_true rfl, Nat.le_of_ble_eq_true rfl⟩) hS (fun _ _ h => h.elim) (fun _ h => h.elim) (fun r u t H1 locs ht hvm hw hBq hz1 hk1 hS => ?_)
  obtain rfl := hw
  have hP := hP.kept (H1 := H1) (fun k q h => hk1 q.1 ((hP k q h).lt) (fun h => h))
  generalize H1 = H at hP hS ⊢
  refine W.widen (k := 33) (n := 60100) (by omega) (by omega) ?_
  refine lv_aload_n hx hb dL_law_47 rfl (lv_at hl 1 rfl) ?_
  refine lv_iconst (v := 3) hx hb dL_law_48 (by decide) ?_
  refine va_calli (va_runS (As := [.ref b, .int (nI 3)]) (rest := [.int (cv_q L xs 2), .int (cv_q L xs 1), .int (cv_q L xs 0), .ref qm, .ref qm]) (n := 2) (bytes := cL_cell) (maxL := 2) ⟨hx, hb, hml, hown, hts⟩ (kt_cell l (b := b) (L := L) (xs := xs) 3 (by decide) hL) ⟨callB_of 2 hts (q_good cw_L_9.1.1) rfl rfl rfl (hts _ cw_L_9.1.2.2.1) (hts _ cw_L_9.1.2.1) cw_L_9.1.2.2.2.2 ⟨Nat.le_of_ble_eq_true rfl, Nat.le_of_ble_eq_true rfl⟩, hts _ cw_L_9.2⟩ ⟨fun a U g mk q => by obtain ⟨q0, q1⟩ := q; exact ⟨q0, va_X.moved (u := U) (U := U.calling g mk a) (Vm.Alike.refl U.vm) q1⟩, fun U hU hW => ⟨rfl, va_X.moved hW.alike (by rw [hU]; exact hX.kept (hS.2.1 b hbl hbA))⟩⟩ rfl rfl hl.1 rfl (lv_room (Nat.le_of_ble_eq_true rfl)) dL_law_49 ⟨Nat.le_of_ble_eq_true rfl, Nat.le_of_ble_eq_true rfl⟩) hS (fun _ _ h => h.elim) (fun _ h => h.elim) (fun r u t H1 locs ht hvm hw hBq hz1 hk1 hS => ?_)
  obtain rfl := hw
  have hP := hP.kept (H1 := H1) (fun k q h => hk1 q.1 ((hP k q h).lt) (fun h => h))
  generalize H1 = H at hP hS ⊢
  refine W.widen (k := 33) (n := 60100) (by omega) (by omega) ?_
  have hPc := hP.sub (ws' := [(qm, .inr (11, [.int 0, .int 0, .int 0, .int 0, .int 0, .int 0, .int 0, .int 0, .int 0, .int 0, .int 0, .int 0, .int 0, .int 0, .int 0, .int 0, .int 0, .null, .null, .null, .null, .int 0, .int 0, .null, .int 0, .int 0, .int 0, .int 0, .int 0, .int 0, .null, .null, .null, .null, .null, .null, .null, .null, .null, .null, .null, .null, .null, .null, .null, .null, .null, .null, .null, .null, .null, .null, .null, .null, .null, .null, .null, .null, .null, .null, .null, .int 0, .null, .int 0, .null, .int 0, .int 0, .null, .null, .int 0, .int 0, .int 0]))]) [32] rfl
  have hDc := hD.sub (ws' := [(qm, .inr (11, [.int 0, .int 0, .int 0, .int 0, .int 0, .int 0, .int 0, .int 0, .int 0, .int 0, .int 0, .int 0, .int 0, .int 0, .int 0, .int 0, .int 0, .null, .null, .null, .null, .int 0, .int 0, .null, .int 0, .int 0, .int 0, .int 0, .int 0, .int 0, .null, .null, .null, .null, .null, .null, .null, .null, .null, .null, .null, .null, .null, .null, .null, .null, .null, .null, .null, .null, .null, .null, .null, .null, .null, .null, .null, .null, .null, .null, .null, .int 0, .null, .int 0, .null, .int 0, .int 0, .null, .null, .int 0, .int 0, .int 0]))]) [32] (by decide) rfl
  have hKc := hK.sub (tys' := []) [] rfl
  have hFc := va_free (wc := [(qm, .inr (11, [.int 0, .int 0, .int 0, .int 0, .int 0, .int 0, .int 0, .int 0, .int 0, .int 0, .int 0, .int 0, .int 0, .int 0, .int 0, .int 0, .int 0, .null, .null, .null, .null, .int 0, .int 0, .null, .int 0, .int 0, .int 0, .int 0, .int 0, .int 0, .null, .null, .null, .null, .null, .null, .null, .null, .null, .null, .null, .null, .null, .null, .null, .null, .null, .null, .null, .null, .null, .null, .null, .null, .null, .null, .null, .null, .null, .null, .null, .int 0, .null, .int 0, .null, .int 0, .int 0, .null, .null, .int 0, .int 0, .int 0]))]) hD hS hA [32] rfl
  refine va_callv (va_runI (As := [.int (cv_q L xs 0), .int (cv_q L xs 1), .int (cv_q L xs 2), .int (cv_q L xs 3)]) (rest := [.ref qm]) (n := 4) (bytes := cX11_init) (maxL := 6) ⟨hx, hb, hml, hown, hts⟩ (ki_X11 l D qm H.size _ _ _ _ hinit) ⟨callB_of 4 hts (q_good ci_L_20.1) rfl rfl rfl (hts _ ci_L_20.2.2.1) (hts _ ci_L_20.2.1) ci_L_20.2.2.2.2 ⟨Nat.le_of_ble_eq_true rfl, Nat.le_of_ble_eq_true rfl⟩, rfl, hts _ ci_L_20i⟩ ⟨fun a U g mk q => by obtain ⟨q0, q1, qP, qK, qD⟩ := q; exact ⟨q0, q1, qP, va_K.moved (u := U) (U := U.calling g mk a) (Vm.Alike.refl U.vm) qK, qD⟩, fun U hU hW => ⟨rfl, by rw [hU], by rw [hU]; exact hPc, va_K.moved hW.alike hKc, hDc.weaken (fun _ _ _ _ => trivial)⟩⟩ rfl rfl hl.1 rfl (lv_room (Nat.le_of_ble_eq_true rfl)) dL_law_52 ⟨Nat.le_of_ble_eq_true rfl, Nat.le_of_ble_eq_true rfl⟩) hS (fun q _ h => hFc q h) hFc (fun u t H1 locs ht hvm hw hB1 hz1 hk1 hS => ?_)
  obtain ⟨am, cm, ham, hP1, hK1, hD1⟩ := hB1
  rw [ht] at hP1
  have hKm := va_K.moved hvm.symm hK1
  obtain ⟨hP2, hD2⟩ := va_join (wc := [(qm, .inr (11, [.int 0, .int 0, .int 0, .int 0, .int 0, .int 0, .int 0, .int 0, .int 0, .int 0, .int 0, .int 0, .int 0, .int 0, .int 0, .int 0, .int 0, .null, .null, .null, .null, .int 0, .int 0, .null, .int 0, .int 0, .int 0, .int 0, .int 0, .int 0, .null, .null, .null, .null, .null, .null, .null, .null, .null, .null, .null, .null, .null, .null, .null, .null, .null, .null, .null, .null, .null, .null, .null, .null, .null, .null, .null, .null, .null, .null, .null, .int 0, .null, .int 0, .null, .int 0, .int 0, .null, .null, .int 0, .int 0, .int 0]))]) (wr := ax_W ax cx (lx_q B T C) (ux_q B T S C cells1 lat1)) (w1 := am_W am cm um1) hP hD [32] [0, 1, 2, 3, 4, 5, 6, 7, 8, 9, 10, 11, 12, 13, 14, 15, 16, 17, 18, 19, 20, 21, 22, 23, 24, 25, 26, 27, 28, 29, 30, 31] rfl rfl (by decide) (by decide) hk1 hFc hP1 hD1
  have hPx : va_P D vwCl (ax_W ax cx (lx_q B T C) (ux_q B T S C cells1 lat1)) H1 := hP2.sub [0, 1, 2, 3, 4, 5, 6, 7, 8, 9, 10, 11, 12, 13, 14, 15, 16, 17, 18, 19, 20, 21, 22, 23, 24, 25, 26, 27, 28, 29, 30, 31] rfl
  have hPm := hP1
  have hDx : ∀ σ, va_D (ax_A ax) (ax_W ax cx (lx_q B T C) σ) := fun σ => q_Dself (a := ax) (n := 32) hDx1 rfl rfl
  have hDm : ∀ σ, va_D (am_A am) (am_W am cm σ) := fun σ => q_Dself (a := am) (n := 41) hD1 rfl rfl
  have hAx : ∀ q, ax_A ax q → s.heap.size ≤ q := q_Ain (a := ax) (n := 32) hDx1 rfl
  have hAm : ∀ q, am_A am q → s.heap.size ≤ q := fun q h => hFc q (q_Ain (a := am) (n := 41) hD1 rfl q h)
  have hxm : ∀ q, ax_A ax q → ¬ am_A am q := by
    rintro q ⟨i, hi, e1⟩ ⟨j, hj, e2⟩
    obtain ⟨x1, h1⟩ := q_mem2 (w := ax_W ax cx (lx_q B T C) (ux_q B T S C cells1 lat1)) (a := ax) (n := 32) rfl hi
    obtain ⟨x2, h2⟩ := q_mem2 (w := am_W am cm um1) (a := am) (n := 41) rfl hj
    have g1 : (ax_W ax cx (lx_q B T C) (ux_q B T S C cells1 lat1) ++ am_W am cm um1)[i]? = some (ax i, x1) := by rw [List.getElem?_append_left (show i < 32 from hi)]; exact h1
    have g2 : (ax_W ax cx (lx_q B T C) (ux_q B T S C cells1 lat1) ++ am_W am cm um1)[32 + j]? = some (am j, x2) := by
      rw [List.getElem?_append_right (show 32 ≤ 32 + j from Nat.le_add_right _ _)]
      show (am_W am cm um1)[32 + j - 32]? = _
      rw [Nat.add_sub_cancel_left]; exact h2
    have := hD2.1 _ _ _ _ g1 g2 (by show ax i = am j; rw [← e1, e2])
    omega
  generalize H1 = H at hPx hPm hS ⊢
  refine W.widen (k := 600000) (n := 7302250) (by omega) (by omega) ?_
  refine lv_astore_n (lv' := [(2, .ref qm), (1, .ref qx), (0, .ref b)]) hx hb dL_law_55 rfl hl (by decide) rfl (fun ls hl => ?_)
  refine lv_iconst (v := 4) hx hb dL_law_56 (by decide) ?_
  refine lv_istore_n (lv' := [(3, .int 4), (2, .ref qm), (1, .ref qx), (0, .ref b)]) hx hb dL_law_57 rfl hl (by decide) rfl (fun ls hl => ?_)
  have hl := lv_sub hl [3, 2, 1, 0] rfl
  rw [← hax, ← ham] at hl
  exact law_loop (Lx := lx_q B T C) ⟨⟨C0, hL⟩, hKx, hKm, hDx, hDm, hAx, hAm, hxm⟩ hst hmono 65 0 4 _ _ rfl (by decide) (by decide) hI0 _ _ _ hPx hPm hS hl
