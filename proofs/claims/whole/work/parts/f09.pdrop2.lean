/-! ===== drop: the call ===== -/
theorem emp_of {B W Ls fb n : Nat} {A : Nat → Nat → Nat} {nm : Nat → Int64} (t : TW B W Ls fb A nm) (hn : n < 64) (h : cq (fun j => !sF A n j) (4 * A 8 n) 0 = 0) : ∀ s, s < 48 → A 14 (48 * n + s) = 0 := by
  intro s hs
  by_cases z : A 14 (48 * n + s) = 0
  · exact z
  · exfalso
    have q := (t.2.2.2.1 (48 * n + s) (by omega) z).2.1
    rw [show (48 * n + s) / 48 = n by omega, show (48 * n + s) % 48 = s by omega] at q
    have := cq_pos (fun j => !sF A n j) (4 * A 8 n) 0 s (by omega) (by omega) (by unfold sF; simp [z])
    omega
theorem p_drop {B T S C W Ls na : Nat} {L : Nat → Nat} {N : Nat} (g : Geo B T S C W Ls) (gl : gL B C W Ls L) (hna : na = 80 + (Ls + 511) / 512) (hN : 140000 ≤ N) : st_drop (Iv B T S C W Ls na) L N := by
  intro k ux um x0 v hk h
  have hl := g.l
  unfold fX10_drop fX11_drop
  rcases l_begins (N := N) g gl hna hN hk h with ⟨vx, vm, z1, z2, z3⟩ | ⟨ux, um, D, kv, Ak, nk, K, dd, A, nm, z1, z2, t, c40⟩
  · rw [z1, z2, qb_s, qb_s, if_pos rfl, if_pos rfl]
    exact ⟨_, vx, vm, rfl, rfl, z3⟩
  · rw [z1, z2, qb_s, qb_s, if_neg (by decide), if_neg (by decide)]
    have x := t.x g gl hna
    have rm := t.rm
    have stay : Iv B T S C W Ls na (k + 1) ux um := Tn_Iv t (by omega) (by omega)
    unfold fX10_refusalToGoBy
    rcases nod x0 with ⟨d, hd, e⟩ | e
    · subst e
      rw [x_kindOf x hd, qb_s, m_isDir rm hd (x.k4 hd), qb_s]
      by_cases c : A 5 d = 2
      · rw [if_pos c, c, if_pos (show nI 2 = (2 : Int32) from rfl), if_neg (show ¬ (1 : Int32) = 0 by decide), x_isName (by omega), m_isName (by omega), qb_s, qb_s]
        cases hv : isNm v with
        | false =>
          rw [b2i_f, if_pos rfl, if_pos rfl, qb_s, if_neg (by decide)]
          exact ⟨_, ux, um, rfl, rfl, stay⟩
        | true =>
          rw [b2i_t, if_neg (by decide), if_neg (by decide), x_may x hd (by omega) (by omega), m_may rm hd, qb_s, qb_s, t.wh.1]
          rcases mayR_01 (q_i um 28) (nI (A 11 d)) (nI (A 12 d)) 3 with hm | hm
          · rw [hm, if_pos rfl, if_pos rfl, qb_s, if_neg (by decide)]
            exact ⟨_, ux, um, rfl, rfl, stay⟩
          · have h8 := x.t8 hd
            rw [hm, if_neg (by decide), if_neg (by decide), qb_s, if_pos rfl, x_seek x (by omega) hd c (isNm_ok hv).1, m_slotOf rm (by omega) hd h8 x.t14, qb_s, qb_s]
            obtain ⟨f, hfe⟩ : ∃ f, f = fnd (sP A nm d v) (4 * A 8 d) 0 := ⟨_, rfl⟩
            rw [← hfe]
            by_cases cf : f < 4 * A 8 d
            · have h14 : A 14 (48 * d + f) ≠ 0 := by
                have := (sP_14 (A := A) (nm := nm) (d := d) (v := v) (m := 4 * A 8 d) (by rw [← hfe]; exact cf)).1
                rw [← hfe] at this
                exact this
              have hn := x.t14 (48 * d + f) (by omega) h14
              rw [if_neg (fun z => (slX_no (by omega)).mp z cf), if_neg (fun z => (slM_no (by omega)).mp z cf)]
              unfold slX slM
              rw [if_pos cf, if_pos cf, x_nodeAt x hd c cf h14, qb_s, qr_n (by omega) (by omega), (rm.2.2.2.2.2.1 _ (by omega)).1, i0_ne h14, x_kindOf x hn, qb_s, qr_n hn (by decide), rm.r7 (by decide) hn]
              have fin : (A 5 (A 14 (48 * d + f)) = 2 → ∀ s, s < 48 → A 14 (48 * A 14 (48 * d + f) + s) = 0) → ∃ r vx vm, fX10_drop_b91 L N (nI d) (nI f) (nI (A 14 (48 * d + f))) ux = some (r, vx) ∧ fX11_drop_b92 N (nI (48 * d + f)) um = some (r, vm) ∧ Iv B T S C W Ls na (k + 1) vx vm := by
                intro he
                obtain ⟨u1, vx, vm, cc, K2, dd2, A2, a1, a2, a3, a4, a5, -⟩ := l_dropSlot (N := N) t g gl hna (by omega) hd c cf rfl h14 he
                unfold fX10_drop_b91 fX11_drop_b92
                rw [a1, qb_s, a2, qb_s, a3, qb_s]
                exact ⟨_, vx, vm, rfl, rfl, Tn_Iv a4 (by omega) (by omega)⟩
              by_cases c2 : A 5 (A 14 (48 * d + f)) = 2
              · have h8n := x.t8 hn
                have hcq := cq_le (fun j => !sF A (A 14 (48 * d + f)) j) (4 * A 8 (A 14 (48 * d + f))) 0
                rw [c2, if_pos (show nI 2 = (2 : Int32) from rfl), if_pos (show nI 2 = (2 : Int32) from rfl), x_nameCount x (by omega) hn c2, m_names rm (by omega) hn h8n x.t14, qb_s, qb_s]
                by_cases c0 : cq (fun j => !sF A (A 14 (48 * d + f)) j) (4 * A 8 (A 14 (48 * d + f))) 0 = 0
                · rw [c0, if_pos (show nI 0 ≤ (0 : Int32) by decide), if_pos (show nI 0 ≤ (0 : Int32) by decide)]
                  exact fin (fun _ => emp_of x.2.2.2 hn c0)
                · rw [if_neg (show ¬ nI (cq (fun j => !sF A (A 14 (48 * d + f)) j) (4 * A 8 (A 14 (48 * d + f))) 0) ≤ (0 : Int32) from nI_ge (a := 0) (by omega) (by omega)), if_neg (show ¬ nI (cq (fun j => !sF A (A 14 (48 * d + f)) j) (4 * A 8 (A 14 (48 * d + f))) 0) ≤ (0 : Int32) from nI_ge (a := 0) (by omega) (by omega))]
                  exact ⟨_, ux, um, rfl, rfl, stay⟩
              · have n2 : ¬ nI (A 5 (A 14 (48 * d + f))) = (2 : Int32) := nI_k (b := 2) (x.k4 hn) (by decide) c2
                rw [if_neg n2, if_neg n2]
                exact fin (fun z => absurd z c2)
            · rw [if_pos ((slX_no (by omega)).mpr cf), if_pos ((slM_no (by omega)).mpr cf)]
              exact ⟨_, ux, um, rfl, rfl, stay⟩
      · rw [if_neg c, if_pos rfl, if_neg (show ¬ nI (A 5 d) = (2 : Int32) from nI_k (b := 2) (x.k4 hd) (by decide) c), qb_s, if_neg (by decide)]
        exact ⟨_, ux, um, rfl, rfl, stay⟩
    · rw [x_kindOut e, qb_s, m_isDirOut e, qb_s, if_neg (by decide), if_pos rfl, qb_s, if_neg (by decide)]
      exact ⟨_, ux, um, rfl, rfl, stay⟩
