set_option maxHeartbeats 8000000 in
set_option maxRecDepth 100000 in
theorem law_loop {p : Program} {l : Launch} {e : Env} {s : State} {m : MethodId} {below : List Frame} {meth : Method} {c : Code} {b L : Nat} {xs : Nat → Int32} {D : va_G} {ax : Nat → Nat} {cx : Nat → ClassId} {Lx : Nat → Nat} {am : Nat → Nat} {cm : Nat → ClassId} (C0 : lq_C p s m meth c b L xs D ax cx Lx am cm) {N : Nat} {Inv : Nat → q_St → q_St → Prop} (hst : lq_Steps Inv Lx N) (hmono : ∀ k ux um, Inv k ux um → Inv (k + 1) ux um) : ∀ (n k i : Nat) (ux um : q_St), i = 4 + 7 * k → k ≤ 64 → 64 < k + n → Inv k ux um → lq_K p l e s m below meth c b D ax cx Lx am cm ux um i 58 := by
  obtain ⟨h0, h1, h2, h3, h4, h5, h6, h7, h8, h9, h10, h11, h12, h13, h14, h15, h16, h17, h18, h19, h20, h21, h22, h23, h24, h25, h26, h27, h28, h29, h30, h31, h32, h33⟩ := hst
  intro n
  induction n with
  | zero => intro k i ux um _ h1 h2; exact absurd h2 (by omega)
  | succ n ih =>
    intro k i ux um hi hk hn hI
    obtain ⟨⟨⟨hx, hb, hr, hml, hown, hts, hX, hbl, hlocks, hgv⟩, hL⟩, hKx, hKm, hDx, hDm, hAx, hAm, hxm⟩ := id C0
    have hbA : ¬ (fun q : Nat => s.heap.size ≤ q) b := Nat.not_le.mpr hbl
    intro H locs ls hPx hPm hS hl
    refine lv_iload_n hx hb dL_law_58 rfl (lv_at hl 3 rfl) ?_
    refine lv_aload_n hx hb dL_law_59 rfl (lv_at hl 0 rfl) ?_
    refine va_slen hx hb hX hbl hbA hS dL_law_60 ?_
    refine lv_bipush (v := 7) hx hb dL_law_61 (by decide) ?_
    refine lv_isub hx hb dL_law_63 ?_
    have hcmp : (nI L - nI 7 < nI i) ↔ (L < i + 7) := by
      rw [Int32.lt_iff_toInt_lt, pk_sub_toInt (by omega) (by omega), nI_toInt (by omega)]; omega
    refine lv_icmp_gt (tgt := 1475) hx hb dL_law_64 (by decide) (fun _ => ?_) (fun hc => ?_)
    · refine lv_iconst (v := 1) hx hb dL_law_1475 (by decide) ?_
      refine va_forget (fun q hq => hS.2.2 q hq) ?_
      exact lw_ret hx hb hr hlocks dL_law_1476
    · have hi7 : i + 7 ≤ L := by
        rcases Nat.lt_or_ge L (i + 7) with q | q
        · exact absurd (hcmp.mpr q) hc
        · exact q
      have hk64 : k < 64 := by omega
      have next : ∀ vx vm, Inv (k + 1) vx vm → lq_K p l e s m below meth c b D ax cx Lx am cm vx vm i 1469 := by
        intro vx vm hI1 H locs ls hPx hPm hS hl
        refine lv_iinc (v := nI (i + 7)) (lv' := [(3, .int (nI (i + 7))), (0, .ref b), (1, .ref (ax 0)), (2, .ref (am 0))]) hx hb dL_law_1469 hl (k := 3) rfl (by rw [← nI_add]; rfl) (by decide) rfl (fun ls hl => ?_)
        refine lv_goto (tgt := 58) hx hb dL_law_1472 (by decide) ?_
        exact ih (k + 1) (i + 7) vx vm (by omega) (by omega) (by omega) hI1 _ _ _ hPx hPm hS (lv_sub hl [1, 2, 3, 0] rfl)
      refine lv_aload_n hx hb dL_law_67 rfl (lv_at hl 0 rfl) ?_
      refine lv_iload_n hx hb dL_law_68 rfl (lv_at hl 3 rfl) ?_
      refine va_sld hx hb hX hbl hbA hS (vp_in_nI (by omega) (by omega)) dL_law_69 ?_
      rw [nI_clamp (by omega)]
      refine lv_bipush (v := 63) hx hb dL_law_70 (by decide) ?_
      refine lv_iand hx hb dL_law_72 ?_
      obtain ⟨x, hxx⟩ : ∃ q, q = xs i &&& 63 := ⟨_, rfl⟩
      rw [← hxx]
      by_cases hq0 : x = 0
      · refine sx_tabIn hx hb 0 hq0 (off := 151) (tgt := 224) dL_law_73 (by decide) (by decide) (by decide) (by decide) ?_
        obtain ⟨r, vx, vm, e1, e2, hI1⟩ := h0 k ux um _ _ _ _ _ hk64 hI
        exact law_c0 C0 hi7 e1 e2 (next vx vm hI1) _ _ _ hPx hPm hS hl
      by_cases hq1 : x = 1
      · refine sx_tabIn hx hb 1 hq1 (off := 214) (tgt := 287) dL_law_73 (by decide) (by decide) (by decide) (by decide) ?_
        obtain ⟨r, vx, vm, e1, e2, hI1⟩ := h1 k ux um _ hk64 hI
        exact law_c1 C0 hi7 e1 e2 (next vx vm hI1) _ _ _ hPx hPm hS hl
      by_cases hq2 : x = 2
      · refine sx_tabIn hx hb 2 hq2 (off := 237) (tgt := 310) dL_law_73 (by decide) (by decide) (by decide) (by decide) ?_
        obtain ⟨r, vx, vm, e1, e2, hI1⟩ := h2 k ux um _ hk64 hI
        exact law_c2 C0 hi7 e1 e2 (next vx vm hI1) _ _ _ hPx hPm hS hl
      by_cases hq3 : x = 3
      · refine sx_tabIn hx hb 3 hq3 (off := 260) (tgt := 333) dL_law_73 (by decide) (by decide) (by decide) (by decide) ?_
        obtain ⟨r, vx, vm, e1, e2, hI1⟩ := h3 k ux um _ _ hk64 hI
        exact law_c3 C0 hi7 e1 e2 (next vx vm hI1) _ _ _ hPx hPm hS hl
      by_cases hq4 : x = 4
      · refine sx_tabIn hx hb 4 hq4 (off := 323) (tgt := 396) dL_law_73 (by decide) (by decide) (by decide) (by decide) ?_
        obtain ⟨r, vx, vm, e1, e2, hI1⟩ := h4 k ux um _ _ hk64 hI
        exact law_c4 C0 hi7 e1 e2 (next vx vm hI1) _ _ _ hPx hPm hS hl
      by_cases hq5 : x = 5
      · refine sx_tabIn hx hb 5 hq5 (off := 386) (tgt := 459) dL_law_73 (by decide) (by decide) (by decide) (by decide) ?_
        obtain ⟨r, vx, vm, e1, e2, hI1⟩ := h5 k ux um _ _ hk64 hI
        exact law_c5 C0 hi7 e1 e2 (next vx vm hI1) _ _ _ hPx hPm hS hl
      by_cases hq6 : x = 6
      · refine sx_tabIn hx hb 6 hq6 (off := 449) (tgt := 522) dL_law_73 (by decide) (by decide) (by decide) (by decide) ?_
        obtain ⟨r, vx, vm, e1, e2, hI1⟩ := h6 k ux um _ _ hk64 hI
        exact law_c6 C0 hi7 e1 e2 (next vx vm hI1) _ _ _ hPx hPm hS hl
      by_cases hq7 : x = 7
      · refine sx_tabIn hx hb 7 hq7 (off := 512) (tgt := 585) dL_law_73 (by decide) (by decide) (by decide) (by decide) ?_
        obtain ⟨r, vx, vm, e1, e2, hI1⟩ := h7 k ux um _ _ _ hk64 hI
        exact law_c7 C0 hi7 e1 e2 (next vx vm hI1) _ _ _ hPx hPm hS hl
      by_cases hq8 : x = 8
      · refine sx_tabIn hx hb 8 hq8 (off := 585) (tgt := 658) dL_law_73 (by decide) (by decide) (by decide) (by decide) ?_
        obtain ⟨r, vx, vm, e1, e2, hI1⟩ := h8 k ux um _ _ hk64 hI
        exact law_c8 C0 hi7 e1 e2 (next vx vm hI1) _ _ _ hPx hPm hS hl
      by_cases hq9 : x = 9
      · refine sx_tabIn hx hb 9 hq9 (off := 618) (tgt := 691) dL_law_73 (by decide) (by decide) (by decide) (by decide) ?_
        obtain ⟨r, vx, vm, e1, e2, hI1⟩ := h9 k ux um _ _ hk64 hI
        exact law_c9 C0 hi7 e1 e2 (next vx vm hI1) _ _ _ hPx hPm hS hl
      by_cases hq10 : x = 10
      · refine sx_tabIn hx hb 10 hq10 (off := 651) (tgt := 724) dL_law_73 (by decide) (by decide) (by decide) (by decide) ?_
        obtain ⟨r, vx, vm, e1, e2, hI1⟩ := h10 k ux um _ _ hk64 hI
        exact law_c10 C0 hi7 e1 e2 (next vx vm hI1) _ _ _ hPx hPm hS hl
      by_cases hq11 : x = 11
      · refine sx_tabIn hx hb 11 hq11 (off := 714) (tgt := 787) dL_law_73 (by decide) (by decide) (by decide) (by decide) ?_
        obtain ⟨r, vx, vm, e1, e2, hI1⟩ := h11 k ux um _ _ _ _ hk64 hI
        exact law_c11 C0 hi7 e1 e2 (next vx vm hI1) _ _ _ hPx hPm hS hl
      by_cases hq12 : x = 12
      · refine sx_tabIn hx hb 12 hq12 (off := 829) (tgt := 902) dL_law_73 (by decide) (by decide) (by decide) (by decide) ?_
        obtain ⟨r, vx, vm, e1, e2, hI1⟩ := h12 k ux um _ _ hk64 hI
        exact law_c12 C0 hi7 e1 e2 (next vx vm hI1) _ _ _ hPx hPm hS hl
      by_cases hq13 : x = 13
      · refine sx_tabIn hx hb 13 hq13 (off := 892) (tgt := 965) dL_law_73 (by decide) (by decide) (by decide) (by decide) ?_
        obtain ⟨r, vx, vm, e1, e2, hI1⟩ := h13 k ux um _ hk64 hI
        exact law_c13 C0 hi7 e1 e2 (next vx vm hI1) _ _ _ hPx hPm hS hl
      by_cases hq14 : x = 14
      · refine sx_tabIn hx hb 14 hq14 (off := 915) (tgt := 988) dL_law_73 (by decide) (by decide) (by decide) (by decide) ?_
        obtain ⟨r, vx, vm, e1, e2, hI1⟩ := h14 k ux um _ _ hk64 hI
        exact law_c14 C0 hi7 e1 e2 (next vx vm hI1) _ _ _ hPx hPm hS hl
      by_cases hq15 : x = 15
      · refine sx_tabIn hx hb 15 hq15 (off := 948) (tgt := 1021) dL_law_73 (by decide) (by decide) (by decide) (by decide) ?_
        obtain ⟨r, vx, vm, e1, e2, hI1⟩ := h15 k ux um _ _ hk64 hI
        exact law_c15 C0 hi7 e1 e2 (next vx vm hI1) _ _ _ hPx hPm hS hl
      by_cases hq16 : x = 16
      · refine sx_tabIn hx hb 16 hq16 (off := 982) (tgt := 1055) dL_law_73 (by decide) (by decide) (by decide) (by decide) ?_
        obtain ⟨r, vx, vm, e1, e2, hI1⟩ := h16 k ux um _ hk64 hI
        exact law_c16 C0 hi7 e1 e2 (next vx vm hI1) _ _ _ hPx hPm hS hl
      by_cases hq17 : x = 17
      · refine sx_tabIn hx hb 17 hq17 (off := 1005) (tgt := 1078) dL_law_73 (by decide) (by decide) (by decide) (by decide) ?_
        obtain ⟨r, vx, vm, e1, e2, hI1⟩ := h17 k ux um _ hk64 hI
        exact law_c17 C0 hi7 e1 e2 (next vx vm hI1) _ _ _ hPx hPm hS hl
      by_cases hq18 : x = 18
      · refine sx_tabIn hx hb 18 hq18 (off := 1028) (tgt := 1101) dL_law_73 (by decide) (by decide) (by decide) (by decide) ?_
        obtain ⟨r, vx, vm, e1, e2, hI1⟩ := h18 k ux um _ _ hk64 hI
        exact law_c18 C0 hi7 e1 e2 (next vx vm hI1) _ _ _ hPx hPm hS hl
      by_cases hq19 : x = 19
      · refine sx_tabIn hx hb 19 hq19 (off := 1061) (tgt := 1134) dL_law_73 (by decide) (by decide) (by decide) (by decide) ?_
        obtain ⟨r, vx, vm, e1, e2, hI1⟩ := h19 k ux um _ _ hk64 hI
        exact law_c19 C0 hi7 e1 e2 (next vx vm hI1) _ _ _ hPx hPm hS hl
      by_cases hq20 : x = 20
      · refine sx_tabIn hx hb 20 hq20 (off := 1094) (tgt := 1167) dL_law_73 (by decide) (by decide) (by decide) (by decide) ?_
        obtain ⟨r, vx, vm, e1, e2, hI1⟩ := h20 k ux um _ _ hk64 hI
        exact law_c20 C0 hi7 e1 e2 (next vx vm hI1) _ _ _ hPx hPm hS hl
      by_cases hq21 : x = 21
      · refine sx_tabIn hx hb 21 hq21 (off := 1127) (tgt := 1200) dL_law_73 (by decide) (by decide) (by decide) (by decide) ?_
        obtain ⟨r, vx, vm, e1, e2, hI1⟩ := h21 k ux um _ hk64 hI
        exact law_c21 C0 hi7 e1 e2 (next vx vm hI1) _ _ _ hPx hPm hS hl
      by_cases hq22 : x = 22
      · refine sx_tabIn hx hb 22 hq22 (off := 1150) (tgt := 1223) dL_law_73 (by decide) (by decide) (by decide) (by decide) ?_
        obtain ⟨r, vx, vm, e1, e2, hI1⟩ := h22 k ux um _ hk64 hI
        exact law_c22 C0 hi7 e1 e2 (next vx vm hI1) _ _ _ hPx hPm hS hl
      by_cases hq23 : x = 23
      · refine sx_tabIn hx hb 23 hq23 (off := 1173) (tgt := 1246) dL_law_73 (by decide) (by decide) (by decide) (by decide) ?_
        obtain ⟨r, vx, vm, e1, e2, hI1⟩ := h23 k ux um _ _ hk64 hI
        exact law_c23 C0 hi7 e1 e2 (next vx vm hI1) _ _ _ hPx hPm hS hl
      by_cases hq24 : x = 24
      · refine sx_tabIn hx hb 24 hq24 (off := 1206) (tgt := 1279) dL_law_73 (by decide) (by decide) (by decide) (by decide) ?_
        obtain ⟨r, vx, vm, e1, e2, hI1⟩ := h24 k ux um _ _ hk64 hI
        exact law_c24 C0 hi7 e1 e2 (next vx vm hI1) _ _ _ hPx hPm hS hl
      by_cases hq25 : x = 25
      · refine sx_tabIn hx hb 25 hq25 (off := 1239) (tgt := 1312) dL_law_73 (by decide) (by decide) (by decide) (by decide) ?_
        obtain ⟨r, vx, vm, e1, e2, hI1⟩ := h25 k ux um hk64 hI
        exact law_c25 C0 hi7 e1 e2 (next vx vm hI1) _ _ _ hPx hPm hS hl
      by_cases hq26 : x = 26
      · refine sx_tabIn hx hb 26 hq26 (off := 1252) (tgt := 1325) dL_law_73 (by decide) (by decide) (by decide) (by decide) ?_
        obtain ⟨r, vx, vm, e1, e2, hI1⟩ := h26 k ux um hk64 hI
        exact law_c26 C0 hi7 e1 e2 (next vx vm hI1) _ _ _ hPx hPm hS hl
      by_cases hq27 : x = 27
      · refine sx_tabIn hx hb 27 hq27 (off := 1265) (tgt := 1338) dL_law_73 (by decide) (by decide) (by decide) (by decide) ?_
        obtain ⟨r, vx, vm, e1, e2, hI1⟩ := h27 k ux um hk64 hI
        exact law_c27 C0 hi7 e1 e2 (next vx vm hI1) _ _ _ hPx hPm hS hl
      by_cases hq28 : x = 28
      · refine sx_tabIn hx hb 28 hq28 (off := 1278) (tgt := 1351) dL_law_73 (by decide) (by decide) (by decide) (by decide) ?_
        obtain ⟨r, vx, vm, e1, e2, hI1⟩ := h28 k ux um hk64 hI
        exact law_c28 C0 hi7 e1 e2 (next vx vm hI1) _ _ _ hPx hPm hS hl
      by_cases hq29 : x = 29
      · refine sx_tabIn hx hb 29 hq29 (off := 1291) (tgt := 1364) dL_law_73 (by decide) (by decide) (by decide) (by decide) ?_
        obtain ⟨r, vx, vm, e1, e2, hI1⟩ := h29 k ux um _ hk64 hI
        exact law_c29 C0 hi7 e1 e2 (next vx vm hI1) _ _ _ hPx hPm hS hl
      by_cases hq30 : x = 30
      · refine sx_tabIn hx hb 30 hq30 (off := 1314) (tgt := 1387) dL_law_73 (by decide) (by decide) (by decide) (by decide) ?_
        obtain ⟨r, vx, vm, e1, e2, hI1⟩ := h30 k ux um hk64 hI
        exact law_c30 C0 hi7 e1 e2 (next vx vm hI1) _ _ _ hPx hPm hS hl
      by_cases hq31 : x = 31
      · refine sx_tabIn hx hb 31 hq31 (off := 1327) (tgt := 1400) dL_law_73 (by decide) (by decide) (by decide) (by decide) ?_
        obtain ⟨r, vx, vm, e1, e2, hI1⟩ := h31 k ux um _ hk64 hI
        exact law_c31 C0 hi7 e1 e2 (next vx vm hI1) _ _ _ hPx hPm hS hl
      by_cases hq32 : x = 32
      · refine sx_tabIn hx hb 32 hq32 (off := 1350) (tgt := 1423) dL_law_73 (by decide) (by decide) (by decide) (by decide) ?_
        obtain ⟨r, vx, vm, e1, e2, hI1⟩ := h32 k ux um _ hk64 hI
        exact law_c32 C0 hi7 e1 e2 (next vx vm hI1) _ _ _ hPx hPm hS hl
      by_cases hq33 : x = 33
      · refine sx_tabIn hx hb 33 hq33 (off := 1373) (tgt := 1446) dL_law_73 (by decide) (by decide) (by decide) (by decide) ?_
        obtain ⟨r, vx, vm, e1, e2, hI1⟩ := h33 k ux um _ hk64 hI
        exact law_c33 C0 hi7 e1 e2 (next vx vm hI1) _ _ _ hPx hPm hS hl
      by_cases hr1 : Int32.toInt x < 0 ∨ 33 < Int32.toInt x
      · refine lv_tableOut (tgt := 1469) hx hb dL_law_73 hr1 (by decide) ?_
        exact next ux um (hmono k ux um hI) _ _ _ hPx hPm hS hl
      · have hr2 : Int32.toInt x = 0 ∨ Int32.toInt x = 1 ∨ Int32.toInt x = 2 ∨ Int32.toInt x = 3 ∨ Int32.toInt x = 4 ∨ Int32.toInt x = 5 ∨ Int32.toInt x = 6 ∨ Int32.toInt x = 7 ∨ Int32.toInt x = 8 ∨ Int32.toInt x = 9 ∨ Int32.toInt x = 10 ∨ Int32.toInt x = 11 ∨ Int32.toInt x = 12 ∨ Int32.toInt x = 13 ∨ Int32.toInt x = 14 ∨ Int32.toInt x = 15 ∨ Int32.toInt x = 16 ∨ Int32.toInt x = 17 ∨ Int32.toInt x = 18 ∨ Int32.toInt x = 19 ∨ Int32.toInt x = 20 ∨ Int32.toInt x = 21 ∨ Int32.toInt x = 22 ∨ Int32.toInt x = 23 ∨ Int32.toInt x = 24 ∨ Int32.toInt x = 25 ∨ Int32.toInt x = 26 ∨ Int32.toInt x = 27 ∨ Int32.toInt x = 28 ∨ Int32.toInt x = 29 ∨ Int32.toInt x = 30 ∨ Int32.toInt x = 31 ∨ Int32.toInt x = 32 ∨ Int32.toInt x = 33 := by omega
        rcases hr2 with hr2 | hr2 | hr2 | hr2 | hr2 | hr2 | hr2 | hr2 | hr2 | hr2 | hr2 | hr2 | hr2 | hr2 | hr2 | hr2 | hr2 | hr2 | hr2 | hr2 | hr2 | hr2 | hr2 | hr2 | hr2 | hr2 | hr2 | hr2 | hr2 | hr2 | hr2 | hr2 | hr2 | hr2
        · exact absurd (Int32.toInt_inj.mp (hr2.trans (by decide : (0 : Int) = Int32.toInt 0))) hq0
        · exact absurd (Int32.toInt_inj.mp (hr2.trans (by decide : (1 : Int) = Int32.toInt 1))) hq1
        · exact absurd (Int32.toInt_inj.mp (hr2.trans (by decide : (2 : Int) = Int32.toInt 2))) hq2
        · exact absurd (Int32.toInt_inj.mp (hr2.trans (by decide : (3 : Int) = Int32.toInt 3))) hq3
        · exact absurd (Int32.toInt_inj.mp (hr2.trans (by decide : (4 : Int) = Int32.toInt 4))) hq4
        · exact absurd (Int32.toInt_inj.mp (hr2.trans (by decide : (5 : Int) = Int32.toInt 5))) hq5
        · exact absurd (Int32.toInt_inj.mp (hr2.trans (by decide : (6 : Int) = Int32.toInt 6))) hq6
        · exact absurd (Int32.toInt_inj.mp (hr2.trans (by decide : (7 : Int) = Int32.toInt 7))) hq7
        · exact absurd (Int32.toInt_inj.mp (hr2.trans (by decide : (8 : Int) = Int32.toInt 8))) hq8
        · exact absurd (Int32.toInt_inj.mp (hr2.trans (by decide : (9 : Int) = Int32.toInt 9))) hq9
        · exact absurd (Int32.toInt_inj.mp (hr2.trans (by decide : (10 : Int) = Int32.toInt 10))) hq10
        · exact absurd (Int32.toInt_inj.mp (hr2.trans (by decide : (11 : Int) = Int32.toInt 11))) hq11
        · exact absurd (Int32.toInt_inj.mp (hr2.trans (by decide : (12 : Int) = Int32.toInt 12))) hq12
        · exact absurd (Int32.toInt_inj.mp (hr2.trans (by decide : (13 : Int) = Int32.toInt 13))) hq13
        · exact absurd (Int32.toInt_inj.mp (hr2.trans (by decide : (14 : Int) = Int32.toInt 14))) hq14
        · exact absurd (Int32.toInt_inj.mp (hr2.trans (by decide : (15 : Int) = Int32.toInt 15))) hq15
        · exact absurd (Int32.toInt_inj.mp (hr2.trans (by decide : (16 : Int) = Int32.toInt 16))) hq16
        · exact absurd (Int32.toInt_inj.mp (hr2.trans (by decide : (17 : Int) = Int32.toInt 17))) hq17
        · exact absurd (Int32.toInt_inj.mp (hr2.trans (by decide : (18 : Int) = Int32.toInt 18))) hq18
        · exact absurd (Int32.toInt_inj.mp (hr2.trans (by decide : (19 : Int) = Int32.toInt 19))) hq19
        · exact absurd (Int32.toInt_inj.mp (hr2.trans (by decide : (20 : Int) = Int32.toInt 20))) hq20
        · exact absurd (Int32.toInt_inj.mp (hr2.trans (by decide : (21 : Int) = Int32.toInt 21))) hq21
        · exact absurd (Int32.toInt_inj.mp (hr2.trans (by decide : (22 : Int) = Int32.toInt 22))) hq22
        · exact absurd (Int32.toInt_inj.mp (hr2.trans (by decide : (23 : Int) = Int32.toInt 23))) hq23
        · exact absurd (Int32.toInt_inj.mp (hr2.trans (by decide : (24 : Int) = Int32.toInt 24))) hq24
        · exact absurd (Int32.toInt_inj.mp (hr2.trans (by decide : (25 : Int) = Int32.toInt 25))) hq25
        · exact absurd (Int32.toInt_inj.mp (hr2.trans (by decide : (26 : Int) = Int32.toInt 26))) hq26
        · exact absurd (Int32.toInt_inj.mp (hr2.trans (by decide : (27 : Int) = Int32.toInt 27))) hq27
        · exact absurd (Int32.toInt_inj.mp (hr2.trans (by decide : (28 : Int) = Int32.toInt 28))) hq28
        · exact absurd (Int32.toInt_inj.mp (hr2.trans (by decide : (29 : Int) = Int32.toInt 29))) hq29
        · exact absurd (Int32.toInt_inj.mp (hr2.trans (by decide : (30 : Int) = Int32.toInt 30))) hq30
        · exact absurd (Int32.toInt_inj.mp (hr2.trans (by decide : (31 : Int) = Int32.toInt 31))) hq31
        · exact absurd (Int32.toInt_inj.mp (hr2.trans (by decide : (32 : Int) = Int32.toInt 32))) hq32
        · exact absurd (Int32.toInt_inj.mp (hr2.trans (by decide : (33 : Int) = Int32.toInt 33))) hq33
