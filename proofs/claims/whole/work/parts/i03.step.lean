/-! ===== what a PART leads to ===== -/
def GoR (A : Nat → Nat → Nat) (len : Nat) (s : Nat → Option Nat) (nx : Nat → Nat) (dp pt : Nat) (u w : q_St) (fx fm : Option (Int32 × q_St)) : Prop :=
  (∃ e v z, fx = some (e, v) ∧ fm = some (e, z) ∧ e < 0 ∧ e ≠ 0 ∧ Fr [34, 35, 36, 37, 38, 39, 40] [7, 10, 11, 12, 13, 14] [4] u v ∧ Fr [29, 31] [36, 37] [] w z) ∨
  (∃ v z here' s' nx' dp' pt', fx = some (0, v) ∧ fm = some (nI here', z) ∧ WR A len s' nx' dp' pt' here' v z ∧ sM A len s' nx' dp' + 41 * (8 - pt') ≤ sM A len s nx dp + 41 * (8 - pt) ∧ Fr [34, 35, 36, 37, 38, 39, 40] [7, 10, 11, 12, 13, 14] [4] u v ∧ Fr [29, 31] [36, 37] [] w z)
theorem GoR_e {A : Nat → Nat → Nat} {len : Nat} {s : Nat → Option Nat} {nx : Nat → Nat} {dp pt : Nat} {u w : q_St} {fx fm : Option (Int32 × q_St)} (e : Int32) (h1 : fx = some (e, u)) (h2 : fm = some (e, w)) (h3 : e < 0) (h4 : e ≠ 0) : GoR A len s nx dp pt u w fx fm := Or.inl ⟨e, u, w, h1, h2, h3, h4, Fr.rf _ _ _ _, Fr.rf _ _ _ _⟩
theorem l_tail {B T S C W Ls na hb : Nat} {um : q_St} {D K : Nat → Nat → Int64} {dd : Nat → Bool} {A : Nat → Nat → Nat} {nm : Nat → Int64} {L : Nat → Nat} {N : Nat} {len dp pt here fr to ln : Nat} {b : Nat → Nat} {u w : q_St} {s : Nat → Option Nat} {nx : Nat → Nat} {sc : Option Nat} {x1 : Int32} (hN : 3000 ≤ N) (xx : WX B T S C W Ls na hb um D K dd A nm L len b u) (xm : WM Ls A nm len b w) (h40 : ∀ n, n < 64 → A 5 n = 4 → A 6 n ≤ 40) (r : WR A len s nx dp pt here u w) (h37 : q_i u 37 = sI sc) (h38 : q_i u 38 = nI fr) (h39 : q_i u 39 = nI to) (ok : Wok A sc) (hft : fr + ln = to) (h1 : 1 ≤ ln) (hto : to ≤ Wsz A len sc) (k2 : A 5 here = 2) (hx1 : x1 = q_i w 28) :
    GoR A len s nx dp pt u w (fX9_goPart_b137 L N x1 u) (fX11_part_b184 N (nI here) (sI sc) (nI fr) (nI to) (nI ln) w) := by
  obtain ⟨r1, r2, r3, r4, r5, r6, r7, r8, r9⟩ := id r
  have hb := W_bd xx ok
  have x := xx.1
  have rm := xm.1
  have ln8 : q_i u 39 - q_i u 38 = nI ln := by rw [h38, h39, pk_sub (by omega), show to - fr = ln by omega]
  by_cases c8 : ln ≤ 8
  · obtain ⟨f, hf⟩ : ∃ f : Nat → Nat, f = fun i => Wby A b sc (fr + i) := ⟨_, rfl⟩
    have hf256 : ∀ i, i < ln → f i < 256 := fun i hi => by rw [hf]; exact hb.2 _ (by omega)
    obtain ⟨nv, q1, q2⟩ := x_pname (L := L) (N := N) (f := f) (u := u) h38 (by rw [hft]; exact h39) (by omega) c8 hf256 (fun i hi => by rw [h37, hf]; exact x_wb xx ok (by omega)) ln 0 N 0 (by omega) (by omega) (fun i hi => by rw [oc_0, if_neg (Nat.not_lt_zero _)]) (fun i hi => absurd hi (Nat.not_lt_zero _))
    obtain ⟨nv2, q3, q4⟩ := m_pname (N := N) (f := f) (w := w) (x1 := nI here) (x2 := sI sc) (fr := fr) (len := ln) (by omega) c8 hf256 (fun i hi => by rw [hf]; exact m_wb xm xx.2.2.1 h40 ok (by omega)) ln N 0 (Nat.le_refl _) (by omega) (fun i hi => by rw [oc_0, if_neg (by omega)])
    have hX : fX9_partName L N u = some (nv, u) := by
      unfold fX9_partName
      rw [ln8, if_pos (show nI ln ≤ (8 : Int32) from nI_le (b := 8) c8 (by decide)), h38, qn_s]
      exact q1
    have hM : fX11_part_b184 N (nI here) (sI sc) (nI fr) (nI to) (nI ln) w = ptE N (nI here) (nI ln) nv2 w := by
      unfold fX11_part_b184
      rw [if_pos (show nI ln ≤ (8 : Int32) from nI_le (b := 8) c8 (by decide)), qn_s, ← hft]
      exact q3
    have mw := m_whole (N := N) (w := w) (by omega) h1 c8 q4
    unfold fX9_goPart_b137
    rw [hX, qb_s, hM]
    unfold ptE
    rcases q2 with ⟨al, oc⟩ | ⟨nal, ez⟩
    · have en : nv2 = nv := oc_ext (fun i hi => by rw [oc i hi, q4 i hi])
      subst en
      have isn := (OC_isNm h1 c8 oc).mp al
      have hv := (isNm_ok isn.1).1
      rw [if_neg (show ¬ lg_cmp nv2 0 = 0 from fun z => hv ((lg_cmp_eq nv2 0).mp z)), mw.1 al, qb_s, if_neg (by decide), r5, x_may x r6 (by omega) (by omega), m_may rm r6, qb_s, qb_s, hx1]
      rcases mayR_01 (q_i w 28) (nI (A 11 here)) (nI (A 12 here)) 1 with hm | hm
      · rw [hm, if_pos rfl, if_pos rfl]
        exact GoR_e _ rfl rfl (by decide) (by decide)
      · have h8 := x.t8 r6
        rw [hm, if_neg (by decide), if_neg (by decide), r5, x_seek x (by omega) r6 k2 hv, m_slotOf rm (by omega) r6 h8 x.t14, qb_s, qb_s]
        by_cases cf : fnd (sP A nm here nv2) (4 * A 8 here) 0 < 4 * A 8 here
        · have h14 := (sP_14 cf).1
          obtain ⟨fd, hfd⟩ : ∃ q, q = fnd (sP A nm here nv2) (4 * A 8 here) 0 := ⟨_, rfl⟩
          rw [← hfd] at cf h14 ⊢
          obtain ⟨nd, hnd⟩ : ∃ q, q = A 14 (48 * here + fd) := ⟨_, rfl⟩
          have h64 := x.t14 _ (show 48 * here + fd < 3072 by omega) h14
          rw [if_neg (fun z => (slX_no (by omega)).mp z cf), if_neg (fun z => (slM_no (by omega)).mp z cf)]
          unfold slX slM
          rw [if_pos cf, if_pos cf, r5, x_nodeAt x r6 k2 cf h14, qb_s, qr_n (by omega) (by omega), (rm.2.2.2.2.2.1 _ (by omega)).1]
          unfold i0
          rw [if_neg h14]
          rw [← hnd] at h14 h64 ⊢
          rw [x_kindOf x h64, qb_s, qr_n h64 (by decide), rm.r7 (by decide) h64]
          by_cases c4 : A 5 nd = 4
          · rw [if_pos (show nI (A 5 nd) = (4 : Int32) by rw [c4]; rfl), if_pos (show nI (A 5 nd) = (4 : Int32) by rw [c4]; rfl), r3, r4, nI_1, qn_s, qn_s]
            obtain ⟨w1, hw1⟩ : ∃ q, q = q_si w 31 (nI (pt + 1)) := ⟨_, rfl⟩
            have fw1 : Fr [29, 31] [36, 37] [] w w1 := by rw [hw1]; exact fr_si1 _ (by decide)
            have i31 : q_i w1 31 = nI (pt + 1) := by rw [hw1]; exact qi_eq
            rw [← hw1, i31]
            by_cases cp : pt < 8
            · obtain ⟨u1, hu1⟩ : ∃ q, q = q_si u 35 (nI (pt + 1)) := ⟨_, rfl⟩
              have fu1 : Fr [34, 35, 36, 37, 38, 39, 40] [7, 10, 11, 12, 13, 14] [4] u u1 := by rw [hu1]; exact fr_si1 _ (by decide)
              have wr1 : WR A len s nx dp (pt + 1) here u1 w1 := by
                refine ⟨by rw [hu1, qi_ne (by decide)]; exact r1, by rw [hw1, qi_ne (by decide)]; exact r2, by rw [hu1]; exact qi_eq, i31, by rw [hu1, qi_ne (by decide)]; exact r5, r6, by omega, by omega, fun i hi => ?_⟩
                rw [hu1, hw1]
                exact r9 i hi
              obtain ⟨v, z, here', s', nx', y1, y2, y3, y4, y5, y6⟩ := l_begin (N := N) (sn := some nd) (WX_fr xx fu1) (WM_fr xm fw1) h40 wr1 (by omega) ⟨h64, c4⟩
              have y1 : fX9_begin L N (nI nd) u1 = some ((), v) := y1
              have y2 : fX11_begin N (nI nd) (nI here) w1 = some (nI here', z) := y2
              have h6 := h40 nd h64 c4
              have y4 : sM A len s' nx' (dp + 1) = sM A len s nx dp + A 6 nd + 1 := y4
              rw [if_pos (show nI pt < (8 : Int32) from nI_lt (b := 8) cp (by decide)), ← hu1, y1, qb_s, if_pos (show nI (pt + 1) ≤ (8 : Int32) from nI_le (b := 8) (by omega) (by decide)), y2, qb_s]
              exact Or.inr ⟨v, z, here', s', nx', dp + 1, pt + 1, rfl, rfl, y3, by omega, fu1.trans y5, fw1.trans y6⟩
            · rw [if_neg (show ¬ nI pt < (8 : Int32) from nI_nlt (b := 8) (by omega) (by omega)), if_neg (show ¬ nI (pt + 1) ≤ (8 : Int32) from nI_ge (a := 8) (by omega) (by omega))]
              exact Or.inl ⟨_, u, w1, rfl, rfl, by decide, by decide, Fr.rf _ _ _ _, fw1⟩
          · have hk := x.k4 h64
            rw [if_neg (show ¬ nI (A 5 nd) = (4 : Int32) from nI_k (b := 4) hk (by decide) c4), if_neg (show ¬ nI (A 5 nd) = (4 : Int32) from nI_k (b := 4) hk (by decide) c4), qn_s]
            refine Or.inr ⟨q_si u 36 (nI nd), w, nd, s, nx, dp, pt, rfl, rfl, ⟨?_, r2, ?_, r4, qi_eq, h64, r7, r8, r9⟩, Nat.le_refl _, fr_si1 _ (by decide), Fr.rf _ _ _ _⟩
            · rw [qi_ne (by decide)]; exact r1
            · rw [qi_ne (by decide)]; exact r3
        · rw [if_pos ((slX_no (by omega)).mpr cf), if_pos ((slM_no (by omega)).mpr cf)]
          exact GoR_e _ rfl rfl (by decide) (by decide)
    · rw [if_pos (show lg_cmp nv 0 = 0 from (lg_cmp_eq nv 0).mpr ez), mw.2 nal, qb_s, if_pos rfl]
      exact GoR_e _ rfl rfl (by decide) (by decide)
  · unfold fX9_goPart_b137 fX9_partName fX11_part_b184
    rw [ln8, if_neg (show ¬ nI ln ≤ (8 : Int32) from nI_ge (a := 8) (by omega) (by omega)), qb_s, if_pos (by decide), if_neg (show ¬ nI ln ≤ (8 : Int32) from nI_ge (a := 8) (by omega) (by omega))]
    exact GoR_e _ rfl rfl (by decide) (by decide)
theorem l_go {B T S C W Ls na hb : Nat} {um : q_St} {D K : Nat → Nat → Int64} {dd : Nat → Bool} {A : Nat → Nat → Nat} {nm : Nat → Int64} {L : Nat → Nat} {N : Nat} {len dp pt here fr to : Nat} {b : Nat → Nat} {u w : q_St} {s : Nat → Option Nat} {nx : Nat → Nat} {sc : Option Nat} {x1 : Int32} (hN : 3000 ≤ N) (xx : WX B T S C W Ls na hb um D K dd A nm L len b u) (xm : WM Ls A nm len b w) (h40 : ∀ n, n < 64 → A 5 n = 4 → A 6 n ≤ 40) (r : WR A len s nx dp pt here u w) (h37 : q_i u 37 = sI sc) (h38 : q_i u 38 = nI fr) (h39 : q_i u 39 = nI to) (ok : Wok A sc) (hft : fr ≤ to) (hto : to ≤ Wsz A len sc) (hx1 : x1 = q_i w 28) :
    GoR A len s nx dp pt u w (fX9_goPart L N x1 u) (fX11_part_b93 N (nI here) (sI sc) (nI fr) (nI to) w) := by
  obtain ⟨r1, r2, r3, r4, r5, r6, r7, r8, r9⟩ := id r
  have hb := W_bd xx ok
  have x := xx.1
  have rm := xm.1
  have hk := x.k4 r6
  obtain ⟨ln, hln⟩ : ∃ q, q = to - fr := ⟨_, rfl⟩
  have ln8 : q_i u 39 - q_i u 38 = nI ln := by rw [h38, h39, pk_sub hft, ← hln]
  have lnm : nI to - nI fr = nI ln := by rw [pk_sub hft, ← hln]
  have stay : GoR A len s nx dp pt u w (some (0, u)) (some (nI here, w)) := Or.inr ⟨u, w, here, s, nx, dp, pt, rfl, rfl, r, Nat.le_refl _, Fr.rf _ _ _ _, Fr.rf _ _ _ _⟩
  unfold fX9_goPart fX11_part_b93
  rw [r5, x_kindOf x r6, qb_s, qr_n r6 (by decide), rm.r7 (by decide) r6]
  by_cases k2 : A 5 here = 2
  · rw [if_pos (show nI (A 5 here) = (2 : Int32) by rw [k2]; rfl), if_pos (show nI (A 5 here) = (2 : Int32) by rw [k2]; rfl), ln8, lnm, qn_s]
    by_cases c0 : ln = 0
    · rw [if_pos (show nI ln < (1 : Int32) by rw [c0]; decide), if_pos (show nI ln ≤ (0 : Int32) by rw [c0]; decide)]
      unfold fX9_goPart_b52 fX9_goPart_b53 fX11_part_b132 fX11_part_b133
      rw [if_pos (show q_i u 39 = q_i u 38 by rw [h38, h39, show to = fr by omega]), if_pos (show nI ln = (0 : Int32) by rw [c0]; rfl)]
      exact stay
    · have tail := l_tail hN xx xm h40 r h37 h38 h39 ok (show fr + ln = to by omega) (by omega) hto k2 hx1
      have hx0 : fX9_byteOf L N (sI sc) (nI fr) u = some (nI (Wby A b sc fr), u) := x_wb xx ok (by omega)
      have hm0 : fX11_byteOf N (sI sc) (nI fr) w = some (sB (Wby A b sc fr), w) := m_wb xm xx.2.2.1 h40 ok (by omega)
      have h256 := hb.2 fr (by omega)
      have neq : ¬ q_i u 39 = q_i u 38 := by
        rw [h38, h39]
        intro z
        have := nI_inj (by omega) (by omega) z
        omega
      have n0 : ¬ nI ln = (0 : Int32) := nI_ne0 (by omega) (by omega)
      rw [if_neg (show ¬ nI ln < (1 : Int32) from nI_nlt (b := 1) (by omega) (by omega)), if_neg (show ¬ nI ln ≤ (0 : Int32) from nI_ge (a := 0) (by omega) (by omega)), h37, h38, hx0, qb_s, hm0, qb_s]
      by_cases cd : Wby A b sc fr = 46
      · rw [if_pos (show nI (Wby A b sc fr) = (46 : Int32) by rw [cd]; rfl), if_pos (show sB (Wby A b sc fr) = (46 : Int32) from (sB_eq (c := 46) h256 (by decide)).mpr cd)]
        unfold fX9_goPart_b53 fX11_part_b133
        rw [if_neg neq, if_neg n0, if_neg (by decide), ln8]
        by_cases c1 : ln = 1
        · rw [if_pos (show nI ln = (1 : Int32) by rw [c1]; rfl), if_pos (show nI ln = (1 : Int32) by rw [c1]; rfl), if_neg (by decide)]
          exact stay
        · have n1 : ¬ nI ln = (1 : Int32) := fun z => c1 (nI_inj (b := 1) (by omega) (by decide) z)
          rw [if_neg n1, if_neg n1]
          unfold fX9_goPart_b84 fX11_part_b153
          rw [if_neg (by decide), ln8]
          by_cases c2 : ln = 2
          · have hx1' : fX9_byteOf L N (sI sc) (nI (fr + 1)) u = some (nI (Wby A b sc (fr + 1)), u) := x_wb xx ok (by omega)
            have hm1' : fX11_byteOf N (sI sc) (nI (fr + 1)) w = some (sB (Wby A b sc (fr + 1)), w) := m_wb xm xx.2.2.1 h40 ok (by omega)
            have h256' := hb.2 (fr + 1) (by omega)
            rw [if_pos (show nI ln = (2 : Int32) by rw [c2]; rfl), if_pos (show nI ln = (2 : Int32) by rw [c2]; rfl), if_neg (by decide), h37, h38, nI_1, hx1', hm1', qb_s, qb_s]
            by_cases ce : Wby A b sc (fr + 1) = 46
            · have h7 := x.2.2.2.1.2.2.1 here r6 k2
              have mh := ((x.2.2.1.2.1 here r6).2.2.1 k2).2
              rw [if_pos (show nI (Wby A b sc (fr + 1)) = (46 : Int32) by rw [ce]; rfl), if_pos (show sB (Wby A b sc (fr + 1)) = (46 : Int32) from (sB_eq (c := 46) h256' (by decide)).mpr ce), r5, x_holderOf x r6, qb_s, qn_s, mh, qr_n r6 (by decide), rm.r7 (by decide) r6]
              refine Or.inr ⟨q_si u 36 (nI (A 7 here)), w, A 7 here, s, nx, dp, pt, rfl, rfl, ⟨?_, r2, ?_, r4, qi_eq, h7.1, r7, r8, r9⟩, Nat.le_refl _, fr_si1 _ (by decide), Fr.rf _ _ _ _⟩
              · rw [qi_ne (by decide)]; exact r1
              · rw [qi_ne (by decide)]; exact r3
            · rw [if_neg (show ¬ nI (Wby A b sc (fr + 1)) = (46 : Int32) from fun z => ce (nI_inj (b := 46) (by omega) (by decide) z)), if_neg (show ¬ sB (Wby A b sc (fr + 1)) = (46 : Int32) from fun z => ce ((sB_eq (c := 46) h256' (by decide)).mp z))]
              exact tail
          · have n2 : ¬ nI ln = (2 : Int32) := fun z => c2 (nI_inj (b := 2) (by omega) (by decide) z)
            rw [if_neg n2, if_neg n2]
            exact tail
      · rw [if_neg (show ¬ nI (Wby A b sc fr) = (46 : Int32) from fun z => cd (nI_inj (b := 46) (by omega) (by decide) z)), if_neg (show ¬ sB (Wby A b sc fr) = (46 : Int32) from fun z => cd ((sB_eq (c := 46) h256 (by decide)).mp z))]
        unfold fX9_goPart_b52 fX9_goPart_b53 fX9_goPart_b84 fX11_part_b132 fX11_part_b133
        rw [if_neg neq, if_pos rfl, if_pos rfl, if_neg n0]
        have b153 : fX11_part_b153 N (nI here) (sI sc) (nI fr) (nI to) (nI ln) 0 w = fX11_part_b184 N (nI here) (sI sc) (nI fr) (nI to) (nI ln) w := by
          unfold fX11_part_b153
          rw [if_pos rfl]
          split <;> rfl
        rw [if_pos rfl, b153]
        have e : (if nI ln = 1 then fX11_part_b184 N (nI here) (sI sc) (nI fr) (nI to) (nI ln) w else fX11_part_b184 N (nI here) (sI sc) (nI fr) (nI to) (nI ln) w) = fX11_part_b184 N (nI here) (sI sc) (nI fr) (nI to) (nI ln) w := by split <;> rfl
        rw [e]
        exact tail
  · rw [if_neg (show ¬ nI (A 5 here) = (2 : Int32) from nI_k (b := 2) hk (by decide) k2), if_neg (show ¬ nI (A 5 here) = (2 : Int32) from nI_k (b := 2) hk (by decide) k2)]
    exact GoR_e _ rfl rfl (by decide) (by decide)
