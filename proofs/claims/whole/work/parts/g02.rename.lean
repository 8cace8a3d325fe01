/-! ===== rename ===== -/
def cmb (x y : Int32) : Int32 := if x = 0 then q_min x y else if y = 0 then q_min x y else q_max x y
theorem cmb_eq : ∀ a1 n1 c1 a2 n2 c2 : Bool, cmb (gcd3 a1 n1 c1) (gcd3 a2 n2 c2) = if a1 = false ∨ a2 = false then -10 else if n1 = false ∨ n2 = false then -11 else if c1 = false ∨ c2 = false then -20 else 0 := by decide +kernel
theorem room_free {W Ls na e f : Nat} {A : Nat → Nat → Nat} (h0 : A 14 (48 * e + f) = 0) (hf : f < 4 * A 8 e) : rom W Ls na e A := by
  left
  rcases Nat.lt_or_ge (fnd (sF A e) (4 * A 8 e) 0) (4 * A 8 e) with q | q
  · exact q
  · exfalso
    have := fnd_no (sF A e) (4 * A 8 e) 0 f (by omega) (by omega)
    unfold sF at this
    rw [h0] at this
    cases this
theorem p_rename {B T S C W Ls na : Nat} {L : Nat → Nat} {N : Nat} (g : Geo B T S C W Ls) (gl : gL B C W Ls L) (hna : na = 80 + (Ls + 511) / 512) (hN : 140000 ≤ N) : st_rename (Iv B T S C W Ls na) L N := by
  intro k ux um x0 v x2 v2 hk h
  have hl := g.l
  unfold fX10_rename fX11_rename
  rcases l_begins (N := N) g gl hna hN hk h with ⟨vx, vm, z1, z2, z3⟩ | ⟨ux, um, D, kv, Ak, nk, K, dd, A, nm, z1, z2, t, c40⟩
  · rw [z1, z2, qb_s, qb_s, if_pos rfl, if_pos rfl]
    exact ⟨_, vx, vm, rfl, rfl, z3⟩
  · rw [z1, z2, qb_s, qb_s, if_neg (by decide), if_neg (by decide)]
    have x := t.x g gl hna
    have rm := t.rm
    have tw := x.2.2.2
    have stay : Iv B T S C W Ls na (k + 1) ux um := Tn_Iv t (by omega) (by omega)
    obtain ⟨a1, c1, p1, p2, p3⟩ := l_goBy (N := N) t g gl hna (by omega) x0 v
    obtain ⟨a2, c2, q1, q2, q3⟩ := l_goBy (N := N) t g gl hna (by omega) x2 v2
    have both : fX10_refusalToGoByBoth L N x0 v x2 v2 ux = some (cmb (gcd3 a1 (isNm v) c1) (gcd3 a2 (isNm v2) c2), ux) := by
      unfold fX10_refusalToGoByBoth fX10_refusalToGoByBoth_b28 cmb
      rw [p1, qb_s, q1, qb_s]
      repeat' split
      all_goals rfl
    rw [both, qb_s, cmb_eq, p2, qb_s]
    cases a1 with
    | false =>
      rw [b2i_f, if_pos rfl, if_pos (Or.inl rfl), if_neg (by decide)]
      exact ⟨_, ux, um, rfl, rfl, stay⟩
    | true =>
      rw [b2i_t, if_neg (show ¬ (1 : Int32) = 0 by decide), q2, qb_s]
      cases a2 with
      | false =>
        rw [b2i_f, if_pos (show (0 : Int32) = 0 from rfl), if_pos (Or.inr rfl), if_neg (by decide)]
        exact ⟨_, ux, um, rfl, rfl, stay⟩
      | true =>
        rw [b2i_t, if_neg (show ¬ (1 : Int32) = 0 by decide), m_isName (by omega), qb_s, if_neg (show ¬ (true = false ∨ true = false) by decide)]
        cases hv : isNm v with
        | false =>
          rw [b2i_f, if_pos (show (0 : Int32) = 0 from rfl), if_pos (Or.inl rfl), if_neg (by decide)]
          exact ⟨_, ux, um, rfl, rfl, stay⟩
        | true =>
          rw [b2i_t, if_neg (show ¬ (1 : Int32) = 0 by decide), m_isName (by omega), qb_s]
          cases hv2 : isNm v2 with
          | false =>
            rw [b2i_f, if_pos (show (0 : Int32) = 0 from rfl), if_pos (Or.inr rfl), if_neg (by decide)]
            exact ⟨_, ux, um, rfl, rfl, stay⟩
          | true =>
            obtain ⟨p4, d, hd, ed, hkd⟩ := p3 rfl
            obtain ⟨q4, e, he, ee, hke⟩ := q3 rfl
            rw [b2i_t, if_neg (show ¬ (1 : Int32) = 0 by decide), p4, qb_s, if_neg (show ¬ (true = false ∨ true = false) by decide)]
            cases c1 with
            | false =>
              rw [b2i_f, if_pos (show (0 : Int32) = 0 from rfl), if_pos (Or.inl rfl), if_neg (by decide)]
              exact ⟨_, ux, um, rfl, rfl, stay⟩
            | true =>
              rw [b2i_t, if_neg (show ¬ (1 : Int32) = 0 by decide), q4, qb_s]
              cases c2 with
              | false =>
                rw [b2i_f, if_pos (show (0 : Int32) = 0 from rfl), if_pos (Or.inr rfl), if_neg (by decide)]
                exact ⟨_, ux, um, rfl, rfl, stay⟩
              | true =>
                rw [b2i_t, if_neg (show ¬ (1 : Int32) = 0 by decide), if_neg (show ¬ (true = false ∨ true = false) by decide), if_pos rfl]
                subst ed
                subst ee
                have h8 := x.t8 hd
                have h8e := x.t8 he
                rw [x_seek x (by omega) hd hkd (isNm_ok hv).1, m_slotOf rm (by omega) hd h8 x.t14, qb_s, qb_s]
                obtain ⟨f, hfe⟩ : ∃ f, f = fnd (sP A nm d v) (4 * A 8 d) 0 := ⟨_, rfl⟩
                rw [← hfe]
                by_cases cf : f < 4 * A 8 d
                · obtain ⟨n, hne⟩ : ∃ n, n = A 14 (48 * d + f) := ⟨_, rfl⟩
                  have h14 : n ≠ 0 ∧ nm (48 * d + f) = v := by
                    have := sP_14 (A := A) (nm := nm) (d := d) (v := v) (m := 4 * A 8 d) (by rw [← hfe]; exact cf)
                    rw [← hfe, ← hne] at this
                    exact this
                  have hn : n < 64 := by rw [hne]; exact x.t14 (48 * d + f) (by omega) (by rw [← hne]; exact h14.1)
                  rw [if_neg (fun z => (slX_no (by omega)).mp z cf), if_neg (fun z => (slM_no (by omega)).mp z cf)]
                  unfold slX slM
                  rw [if_pos cf, if_pos cf, x_nodeAt x hd hkd cf (by rw [← hne]; exact h14.1), qb_s, qr_n (by omega) (by omega), (rm.2.2.2.2.2.1 _ (by omega)).1, ← hne, i0_ne h14.1]
                  have hk4 := x.k4 hn
                  have go : ∃ r vx vm, fX10_rename_b83 L N (nI d) (nI e) v2 (nI f) (nI n) ux = some (r, vx) ∧ fX11_rename_b112 N (nI d) (nI e) v2 (nI (48 * d + f)) (nI n) um = some (r, vm) ∧ Iv B T S C W Ls na (k + 1) vx vm := by
                    obtain ⟨f3, hf3⟩ : ∃ f, f = fnd (sP A nm e v2) (4 * A 8 e) 0 := ⟨_, rfl⟩
                    have sx := x_seek (N := N) x (by omega) he hke (isNm_ok hv2).1
                    have sm := m_slotOf (N := N) rm (by omega) he h8e x.t14 (v := v2)
                    rw [← hf3] at sx sm
                    have tail : ∀ y0 : Int32, y0 = (if A 5 n = 2 then 1 else 0) → (A 5 n = 2 → ∀ k, upn A k e ≠ n) → ∃ r vx vm, q_bnd (fX10_refusalToMove_b39 L N (nI n) (nI d) (nI e) (slX (4 * A 8 e) f3) y0 ux) (fun r16 u17 => if r16 = 0 then (if slX (4 * A 8 e) f3 = (-1) then fX10_rename_b157 L N (nI d) (nI e) v2 (nI f) (nI n) u17 else q_bnd (fX3_nodeAt L N (nI e) (slX (4 * A 8 e) f3) u17) (fun r31 u32 => q_bnd (fX3_takeOut L N (nI e) (slX (4 * A 8 e) f3) u32) (fun _ u35 => q_bnd (fX0_dropOne L N r31 u35) (fun r37 u38 => fX10_rename_b157 L N (nI d) (nI e) v2 (nI f) (nI n) u38)))) else some (r16, u17)) = some (r, vx) ∧ fX11_rename_b137 N (nI d) (nI e) v2 (nI (48 * d + f)) (nI n) um = some (r, vm) ∧ Iv B T S C W Ls na (k + 1) vx vm := by
                      intro y0 hy0 hw
                      have moved : rom W Ls na e (setA A 14 (48 * d + f) 0) → ∃ r vx vm, fX10_rename_b157 L N (nI d) (nI e) v2 (nI f) (nI n) ux = some (r, vx) ∧ fX11_rename_b260 N (nI d) (nI e) v2 (nI (48 * d + f)) (nI n) um = some (r, vm) ∧ Iv B T S C W Ls na (k + 1) vx vm := by
                        intro room
                        obtain ⟨vx, vm, K2, dd2, A2, nm2, b1, b2, b3, b4⟩ := l_move (N := N) (v := v2) t g gl hna (by omega) hd hkd cf hne.symm h14.1 he hke (isNm_ok hv2) room hw
                        exact ⟨_, vx, vm, b1, b2, Tn_Iv b3 (by omega) (by omega)⟩
                      by_cases cf3 : f3 < 4 * A 8 e
                      · obtain ⟨n3, hn3⟩ : ∃ n, n = A 14 (48 * e + f3) := ⟨_, rfl⟩
                        have h143 : n3 ≠ 0 := by
                          have := (sP_14 (A := A) (nm := nm) (d := e) (v := v2) (m := 4 * A 8 e) (by rw [← hf3]; exact cf3)).1
                          rw [← hf3, ← hn3] at this
                          exact this
                        have hn364 : n3 < 64 := by rw [hn3]; exact x.t14 (48 * e + f3) (by omega) (by rw [← hn3]; exact h143)
                        have hk43 := x.k4 hn364
                        have sl : slX (4 * A 8 e) f3 = nI f3 := if_pos cf3
                        have slm : slM e (4 * A 8 e) f3 = nI (48 * e + f3) := if_pos cf3
                        have nd3 := x_nodeAt (N := N) x he hke cf3 (by rw [← hn3]; exact h143)
                        rw [← hn3] at nd3
                        have X39 : fX10_refusalToMove_b39 L N (nI n) (nI d) (nI e) (nI f3) y0 ux = (if nI (A 5 n3) = 2 then fX10_refusalToMove_b99 L N (nI n) y0 (nI n3) 1 ux else fX10_refusalToMove_b99 L N (nI n) y0 (nI n3) 0 ux) := by
                          unfold fX10_refusalToMove_b39
                          rw [if_neg (m1_ne f3 (by omega)), nd3, qb_s, x_kindOf x hn364, qb_s]
                        have M137 : fX11_rename_b137 N (nI d) (nI e) v2 (nI (48 * d + f)) (nI n) um = if nI n3 = nI n then some ((-13), um) else (if nI (A 5 n3) = 2 then fX11_rename_b185 N (nI d) (nI e) v2 (nI (48 * d + f)) (nI n) (nI (48 * e + f3)) (nI n3) 1 um else fX11_rename_b185 N (nI d) (nI e) v2 (nI (48 * d + f)) (nI n) (nI (48 * e + f3)) (nI n3) 0 um) := by
                          unfold fX11_rename_b137
                          rw [sm, qb_s, slm, if_neg (m1_ne _ (by omega)), qr_n (by omega) (by omega), (rm.2.2.2.2.2.1 _ (by omega)).1, ← hn3, i0_ne h143, qr_n hn364 (by decide), rm.r7 (by decide) hn364]
                        have M185 : ∀ y, fX11_rename_b185 N (nI d) (nI e) v2 (nI (48 * d + f)) (nI n) (nI (48 * e + f3)) (nI n3) y um = if nI (A 5 n) = 2 then fX11_rename_b201 N (nI d) (nI e) v2 (nI (48 * d + f)) (nI n) (nI (48 * e + f3)) (nI n3) 1 y um else fX11_rename_b201 N (nI d) (nI e) v2 (nI (48 * d + f)) (nI n) (nI (48 * e + f3)) (nI n3) 0 y um := by
                          intro y
                          unfold fX11_rename_b185
                          rw [qr_n hn (by decide), rm.r7 (by decide) hn]
                        have no : ∀ c : Int32, ¬ c = 0 → fX10_refusalToMove_b39 L N (nI n) (nI d) (nI e) (nI f3) y0 ux = some (c, ux) → fX11_rename_b137 N (nI d) (nI e) v2 (nI (48 * d + f)) (nI n) um = some (c, um) → ∃ r vx vm, q_bnd (fX10_refusalToMove_b39 L N (nI n) (nI d) (nI e) (nI f3) y0 ux) (fun r16 u17 => if r16 = 0 then (if nI f3 = (-1) then fX10_rename_b157 L N (nI d) (nI e) v2 (nI f) (nI n) u17 else q_bnd (fX3_nodeAt L N (nI e) (nI f3) u17) (fun r31 u32 => q_bnd (fX3_takeOut L N (nI e) (nI f3) u32) (fun _ u35 => q_bnd (fX0_dropOne L N r31 u35) (fun r37 u38 => fX10_rename_b157 L N (nI d) (nI e) v2 (nI f) (nI n) u38)))) else some (r16, u17)) = some (r, vx) ∧ fX11_rename_b137 N (nI d) (nI e) v2 (nI (48 * d + f)) (nI n) um = some (r, vm) ∧ Iv B T S C W Ls na (k + 1) vx vm := by
                          intro c hc hX hM
                          rw [hX, hM, qb_s, if_neg hc]
                          exact ⟨_, ux, um, rfl, rfl, stay⟩
                        have drp : (A 5 n3 = 2 → ∀ s, s < 48 → A 14 (48 * n3 + s) = 0) → ¬ n3 = n → fX10_refusalToMove_b39 L N (nI n) (nI d) (nI e) (nI f3) y0 ux = some (0, ux) → fX11_rename_b137 N (nI d) (nI e) v2 (nI (48 * d + f)) (nI n) um = fX11_rename_b230 N (nI d) (nI e) v2 (nI (48 * d + f)) (nI n) (nI (48 * e + f3)) um → ∃ r vx vm, q_bnd (fX10_refusalToMove_b39 L N (nI n) (nI d) (nI e) (nI f3) y0 ux) (fun r16 u17 => if r16 = 0 then (if nI f3 = (-1) then fX10_rename_b157 L N (nI d) (nI e) v2 (nI f) (nI n) u17 else q_bnd (fX3_nodeAt L N (nI e) (nI f3) u17) (fun r31 u32 => q_bnd (fX3_takeOut L N (nI e) (nI f3) u32) (fun _ u35 => q_bnd (fX0_dropOne L N r31 u35) (fun r37 u38 => fX10_rename_b157 L N (nI d) (nI e) v2 (nI f) (nI n) u38)))) else some (r16, u17)) = some (r, vx) ∧ fX11_rename_b137 N (nI d) (nI e) v2 (nI (48 * d + f)) (nI n) um = some (r, vm) ∧ Iv B T S C W Ls na (k + 1) vx vm := by
                          intro hemp cnn hX hM
                          obtain ⟨u1, vx, vm, cc, K2, dd2, A2, b1, b2, b3, b4, b5, b6, b7, b8⟩ := l_dropSlot (N := N) t g gl hna (by omega) he hke cf3 hn3.symm h143 hemp
                          have hd3 : d ≠ n3 := by
                            intro z
                            have := hemp (by rw [← z]; exact hkd) f (by omega)
                            rw [← z, ← hne] at this
                            exact h14.1 this
                          have he3 : e ≠ n3 := by
                            intro z
                            have := hemp (by rw [← z]; exact hke) f3 (by omega)
                            rw [← z, ← hn3] at this
                            exact h143 this
                          have hj : 48 * d + f ≠ 48 * e + f3 := by
                            intro z
                            rw [← z, ← hne] at hn3
                            exact cnn hn3
                          have hnn3 : n ≠ n3 := fun z => cnn z.symm
                          obtain ⟨vx2, vm2, K3, dd3, A3, nm3, d1, d2, d3, d4⟩ := l_move (N := N) (v := v2) b4 g gl hna (by omega) hd (by rw [(b7 d hd3).1]; exact hkd) (by rw [(b7 d hd3).2]; exact cf) (by rw [b6, if_neg hj]; exact hne.symm) h14.1 he (by rw [(b7 e he3).1]; exact hke) (isNm_ok hv2) (room_free (f := f3) (by rw [setA_n (fun z => hj z.symm), b6, if_pos rfl]) (by rw [setA_k (by decide), (b7 e he3).2]; exact cf3)) (fun z k => by
                            rw [(b7 n hnn3).1] at z
                            rw [upn_cg b8]
                            exact hw z k)
                          refine ⟨nI n, vx2, vm2, ?_, ?_, Tn_Iv d3 (by omega) (by omega)⟩
                          · rw [hX, qb_s, if_pos rfl, if_neg (m1_ne f3 (by omega)), nd3, qb_s, b1, qb_s, b2, qb_s]; exact d1
                          · rw [hM]
                            unfold fX11_rename_b230
                            rw [b3, qb_s]; exact d2
                        rw [sl]
                        by_cases cnn : n3 = n
                        · refine no (-13) (by decide) ?_ (by rw [M137, if_pos (show nI n3 = nI n by rw [cnn])])
                          rw [X39]
                          unfold fX10_refusalToMove_b99
                          rw [if_pos (show nI n3 = nI n by rw [cnn]), if_pos (show nI n3 = nI n by rw [cnn])]
                          split <;> rfl
                        · have nn : ¬ nI n3 = nI n := fun z => cnn (nI_inj (by omega) (by omega) z)
                          by_cases k3 : A 5 n3 = 2
                          · by_cases k2 : A 5 n = 2
                            · have h8n := x.t8 hn364
                              have hcq := cq_le (fun j => !sF A n3 j) (4 * A 8 n3) 0
                              have hX : fX10_refusalToMove_b39 L N (nI n) (nI d) (nI e) (nI f3) y0 ux = if nI (cq (fun j => !sF A n3 j) (4 * A 8 n3) 0) ≤ 0 then some (0, ux) else some ((-17), ux) := by
                                rw [X39, if_pos (by rw [k3]; rfl)]
                                unfold fX10_refusalToMove_b99
                                rw [if_neg nn, hy0, if_pos k2, if_pos rfl, if_neg (show ¬ (1 : Int32) = 0 by decide), x_nameCount x (by omega) hn364 k3, qb_s]
                              have hM : fX11_rename_b137 N (nI d) (nI e) v2 (nI (48 * d + f)) (nI n) um = if nI (cq (fun j => !sF A n3 j) (4 * A 8 n3) 0) ≤ 0 then fX11_rename_b230 N (nI d) (nI e) v2 (nI (48 * d + f)) (nI n) (nI (48 * e + f3)) um else some ((-17), um) := by
                                rw [M137, if_neg nn, if_pos (by rw [k3]; rfl), M185, if_pos (by rw [k2]; rfl)]
                                unfold fX11_rename_b201
                                rw [if_pos rfl, qr_n hn364 (by decide), rm.r7 (by decide) hn364, if_pos (by rw [k3]; rfl), m_names rm (by omega) hn364 h8n x.t14, qb_s]
                              by_cases c0 : cq (fun j => !sF A n3 j) (4 * A 8 n3) 0 = 0
                              · rw [c0, if_pos (show nI 0 ≤ (0 : Int32) by decide)] at hX hM
                                exact drp (fun _ => emp_of tw hn364 c0) cnn hX hM
                              · rw [if_neg (show ¬ nI (cq (fun j => !sF A n3 j) (4 * A 8 n3) 0) ≤ (0 : Int32) from nI_ge (a := 0) (by omega) (by omega))] at hX hM
                                exact no (-17) (by decide) hX hM
                            · refine no (-13) (by decide) ?_ ?_
                              · rw [X39, if_pos (by rw [k3]; rfl)]
                                unfold fX10_refusalToMove_b99
                                rw [if_neg nn, hy0, if_neg k2, if_neg (show ¬ (1 : Int32) = 0 by decide)]
                              · rw [M137, if_neg nn, if_pos (by rw [k3]; rfl), M185, if_neg (show ¬ nI (A 5 n) = (2 : Int32) from nI_k (b := 2) hk4 (by decide) k2)]
                                unfold fX11_rename_b201
                                rw [if_neg (show ¬ (1 : Int32) = 0 by decide)]
                          · have nk3 : ¬ nI (A 5 n3) = (2 : Int32) := nI_k (b := 2) hk43 (by decide) k3
                            by_cases k2 : A 5 n = 2
                            · refine no (-13) (by decide) ?_ ?_
                              · rw [X39, if_neg nk3]
                                unfold fX10_refusalToMove_b99
                                rw [if_neg nn, hy0, if_pos k2, if_neg (show ¬ (0 : Int32) = 1 by decide)]
                              · rw [M137, if_neg nn, if_neg nk3, M185, if_pos (by rw [k2]; rfl)]
                                unfold fX11_rename_b201
                                rw [if_neg (show ¬ (0 : Int32) = 1 by decide)]
                            · refine drp (fun z => absurd z k3) cnn ?_ ?_
                              · rw [X39, if_neg nk3]
                                unfold fX10_refusalToMove_b99
                                rw [if_neg nn, hy0, if_neg k2, if_pos rfl, if_pos rfl]
                              · rw [M137, if_neg nn, if_neg nk3, M185, if_neg (show ¬ nI (A 5 n) = (2 : Int32) from nI_k (b := 2) hk4 (by decide) k2)]
                                unfold fX11_rename_b201
                                rw [if_pos rfl, qr_n hn364 (by decide), rm.r7 (by decide) hn364, if_neg nk3]
                      · have sl : slX (4 * A 8 e) f3 = -1 := if_neg cf3
                        have slm : slM e (4 * A 8 e) f3 = -1 := if_neg cf3
                        unfold fX10_refusalToMove_b39 fX10_refusalToMove_b62 fX11_rename_b137
                        rw [sm, qb_s, sl, slm, if_pos rfl, if_pos rfl]
                        by_cases cde : d = e
                        · rw [if_pos (show nI d = nI e by rw [cde]), if_pos (show nI d = nI e by rw [cde]), qb_s, if_pos rfl, if_pos rfl]
                          exact moved (room_free (f := f) (by rw [← cde, setA_s]) (by rw [setA_k (by decide), ← cde]; exact cf))
                        · have nde : ¬ nI d = nI e := fun z => cde (nI_inj (by omega) (by omega) z)
                          obtain ⟨q, w1, w2, w3⟩ := l_hasRoom (N := N) t g gl hna (by omega) he hke
                          rw [if_neg nde, if_neg nde, w1, w2, qb_s, qb_s]
                          cases hq : q with
                          | false =>
                            rw [b2i_f, if_pos rfl, if_pos rfl, qb_s, if_neg (by decide)]
                            exact ⟨_, ux, um, rfl, rfl, stay⟩
                          | true =>
                            rw [b2i_t, if_neg (by decide), if_neg (by decide), qb_s, if_pos rfl, if_pos rfl]
                            refine moved ?_
                            have e8 : setA A 14 (48 * d + f) 0 8 = A 8 := setA_k (by decide)
                            have ef : fnd (sF (setA A 14 (48 * d + f) 0) e) (4 * A 8 e) 0 = fnd (sF A e) (4 * A 8 e) 0 := fnd_cg _ _ (fun i _ hi => by
                              unfold sF
                              rw [setA_n (by omega)])
                            have eb : fnd (frB (setA A 14 (48 * d + f) 0) W none) (Ls - (na + 64)) (na + 64) = fnd (frB A W none) (Ls - (na + 64)) (na + 64) := fnd_cg _ _ (fun i _ _ => by
                              unfold frB
                              rw [setA_k (by decide)])
                            unfold rom
                            rw [e8, ef, eb]
                            exact w3 hq
                    unfold fX10_rename_b83 fX10_refusalToMove fX10_refusalToMove_b17 fX11_rename_b112
                    rw [sx, qb_s, x_kindOf x hn, qb_s, qr_n hn (by decide), rm.r7 (by decide) hn]
                    by_cases k2 : A 5 n = 2
                    · have h7 : ∀ m, m < 64 → A 5 m = 2 → A 7 m < 64 ∧ A 5 (A 7 m) = 2 := fun m hm hk => ⟨(tw.1.2.2.1 m hm hk).1, (tw.1.2.2.1 m hm hk).2.1⟩
                      obtain ⟨kk, kk1, kk2⟩ := up63 h7 he hke (tw.2.2.2.2.2.2.2 e he hke)
                      have iw := x_isWithin (N := N) x hn kk 0 N 64 (by omega) (by omega) (by omega) e he hke kk2 (Or.inr trivial)
                      have iw : fX4_isWithin L N (nI e) (nI n) ux = some (b2i (isi A n kk e), ux) := iw
                      have ii := m_isIn (N := N) rm h7 tw.1.2.1.2 hn h14.1 kk N e (by omega) he hke kk2
                      have ii : fX11_isIn N (nI e) (nI n) um = some (b2i (isi A n kk e), um) := ii
                      rw [k2, if_pos (show nI 2 = (2 : Int32) from rfl), if_neg (show ¬ (1 : Int32) = 0 by decide), iw, qb_s, if_pos (show nI 2 = (2 : Int32) from rfl), ii, qb_s]
                      cases hi : isi A n kk e with
                      | true =>
                        rw [b2i_t, if_neg (by decide), if_neg (by decide), qb_s, if_neg (by decide)]
                        exact ⟨_, ux, um, rfl, rfl, stay⟩
                      | false =>
                        rw [b2i_f, if_pos rfl, if_pos rfl]
                        exact tail 1 (by rw [if_pos k2]) (fun _ => isi_no h14.1 tw.1.2.1.2 kk e kk2 hi)
                    · have n2 : ¬ nI (A 5 n) = (2 : Int32) := nI_k (b := 2) hk4 (by decide) k2
                      rw [if_neg n2, if_pos rfl, if_neg n2]
                      exact tail 0 (by rw [if_neg k2]) (fun z => absurd z k2)
                  by_cases cde : nI d = nI e
                  · rw [if_pos cde, if_pos cde]
                    by_cases cvv : v = v2
                    · rw [if_pos ((lg_cmp_eq _ _).mpr cvv), if_pos ((lg_cmp_eq _ _).mpr cvv)]
                      exact ⟨_, ux, um, rfl, rfl, stay⟩
                    · rw [if_neg (fun z => cvv ((lg_cmp_eq _ _).mp z)), if_neg (fun z => cvv ((lg_cmp_eq _ _).mp z))]
                      exact go
                  · rw [if_neg cde, if_neg cde]
                    exact go
                · rw [if_pos ((slX_no (by omega)).mpr cf), if_pos ((slM_no (by omega)).mpr cf)]
                  exact ⟨_, ux, um, rfl, rfl, stay⟩
