/-! ===== mode, give ===== -/
theorem up_id {f : Nat → Int32} {k : Nat} {v : Int32} (h : f k = v) : upd f k v = f := by
  funext j
  by_cases c : j = k
  · rw [c, up_s, h]
  · rw [up_n c]
theorem Tn.x {B T S C W Ls na hb : Nat} {D kv : Nat → Nat → Int64} {Ak : Nat → Nat → Nat} {nk : Nat → Int64} {K : Nat → Nat → Int64} {dd : Nat → Bool} {A : Nat → Nat → Nat} {nm : Nat → Int64} {L : Nat → Nat} {ux um : q_St} (t : Tn B T S C W Ls na hb D kv Ak nk K dd A nm ux um) (g : Geo B T S C W Ls) (gl : gL B C W Ls L) (hna : na = 80 + (Ls + 511) / 512) : Xr B T S C W Ls na hb um D K dd A nm L ux := ⟨⟨g, gl, hna⟩, t.2.2.2.1, t.2.2.2.2.2.2.2.2.1, t.2.2.2.2.2.2.2.1⟩
theorem Tn.rm {B T S C W Ls na hb : Nat} {D kv : Nat → Nat → Int64} {Ak : Nat → Nat → Nat} {nk : Nat → Int64} {K : Nat → Nat → Int64} {dd : Nat → Bool} {A : Nat → Nat → Nat} {nm : Nat → Int64} {ux um : q_St} (t : Tn B T S C W Ls na hb D kv Ak nk K dd A nm ux um) : RM Ls A nm (q_a um) (q_j um 0) := t.2.2.2.2.2.2.1
theorem Tn.wh {B T S C W Ls na hb : Nat} {D kv : Nat → Nat → Int64} {Ak : Nat → Nat → Nat} {nk : Nat → Int64} {K : Nat → Nat → Int64} {dd : Nat → Bool} {A : Nat → Nat → Nat} {nm : Nat → Int64} {ux um : q_St} (t : Tn B T S C W Ls na hb D kv Ak nk K dd A nm ux um) : whR ux um := t.1.2.2.2.2.2.2.2
theorem x_refFree {B T S C W Ls na hb : Nat} {D kv : Nat → Nat → Int64} {Ak : Nat → Nat → Nat} {nk : Nat → Int64} {K : Nat → Nat → Int64} {dd : Nat → Bool} {A : Nat → Nat → Nat} {nm : Nat → Int64} {L : Nat → Nat} {N : Nat} {ux um : q_St} (t : Tn B T S C W Ls na hb D kv Ak nk K dd A nm ux um) (g : Geo B T S C W Ls) (gl : gL B C W Ls L) (hna : na = 80 + (Ls + 511) / 512) (o : Int32) :
    (fX10_refusalOfFree L N o ux = some (-10, ux) ∧ fX11_isNode N o um = some (0, um)) ∨ (∃ n, n < 64 ∧ o = nI n ∧ A 5 n ≠ 0 ∧ fX10_refusalOfFree L N o ux = some (0, ux) ∧ fX11_isNode N o um = some (1, um)) := by
  have x := t.x g gl hna
  unfold fX10_refusalOfFree
  rw [t.2.1, if_neg (by decide)]
  rcases nod o with ⟨n, hn, e⟩ | e
  · subst e
    rw [x_kindOf x hn, qb_s, m_isNode t.rm hn (x.k4 hn)]
    by_cases c : A 5 n = 0
    · left
      rw [c, if_pos (show nI 0 = (0 : Int32) from rfl), if_pos rfl]
      exact ⟨rfl, rfl⟩
    · right
      rw [if_neg (show ¬ nI (A 5 n) = (0 : Int32) from nI_k (b := 0) (x.k4 hn) (by decide) c), if_neg c]
      exact ⟨n, hn, rfl, c, rfl, rfl⟩
  · left
    rw [x_kindOut e, qb_s, if_pos rfl, m_isNodeOut e]
    exact ⟨rfl, rfl⟩
theorem p_mode {B T S C W Ls na : Nat} {L : Nat → Nat} {N : Nat} (g : Geo B T S C W Ls) (gl : gL B C W Ls L) (hna : na = 80 + (Ls + 511) / 512) (hN : 140000 ≤ N) : st_mode (Iv B T S C W Ls na) L N := by
  intro k ux um x0 x1 hk h
  unfold fX10_mode fX11_mode
  rcases l_begins (N := N) g gl hna hN hk h with ⟨vx, vm, z1, z2, z3⟩ | ⟨ux, um, D, kv, Ak, nk, K, dd, A, nm, z1, z2, t, c40⟩
  · rw [z1, z2, qb_s, qb_s, if_pos rfl, if_pos rfl]
    exact ⟨_, vx, vm, rfl, rfl, z3⟩
  · rw [z1, z2, qb_s, qb_s, if_neg (by decide), if_neg (by decide)]
    have x := t.x g gl hna
    have rm := t.rm
    have stay : Iv B T S C W Ls na (k + 1) ux um := Tn_Iv t (by omega) (by omega)
    rcases x_refFree (N := N) t g gl hna x0 with ⟨y1, y2⟩ | ⟨n, hn, e, hk0, y1, y2⟩
    · rw [y1, y2, qb_s, qb_s, if_neg (by decide), if_pos rfl]
      exact ⟨_, ux, um, rfl, rfl, stay⟩
    · subst e
      rw [y1, y2, qb_s, qb_s, if_pos rfl, if_neg (by decide), x_kindOf x hn, qb_s, qr_n hn (by decide), rm.r7 (by decide) hn]
      by_cases c4 : A 5 n = 4
      · rw [c4, if_pos (show nI 4 = (4 : Int32) from rfl), if_pos (show nI 4 = (4 : Int32) from rfl)]
        exact ⟨_, ux, um, rfl, rfl, stay⟩
      · have n4 : ¬ nI (A 5 n) = (4 : Int32) := nI_k (b := 4) (x.k4 hn) (by decide) c4
        rw [if_neg n4, if_neg n4]
        by_cases c0 : x1 < 0
        · rw [if_pos c0, if_pos c0]
          exact ⟨_, ux, um, rfl, rfl, stay⟩
        · rw [if_neg c0, if_neg c0]
          by_cases c63 : x1 ≤ 63
          · rw [if_pos c63, if_pos c63]
            obtain ⟨b, hb, eb⟩ : ∃ b, b < 64 ∧ x1 = nI b := by
              refine i_nat c0 ?_ (by decide)
              rw [Int32.lt_iff_toInt_lt]
              rw [Int32.le_iff_toInt_le] at c63
              have a1 : (63 : Int32).toInt = 63 := by decide
              have a2 : (nI 64).toInt = 64 := by decide
              omega
            subst eb
            have fin : ∃ r vx vm, fX10_mode_b77 L N (nI n) (nI b) ux = some (r, vx) ∧ fX11_mode_b67 N (nI n) (nI b) um = some (r, vm) ∧ Iv B T S C W Ls na (k + 1) vx vm := by
              have hA12 := (t.2.2.2.2.2.2.2.1.1.1 n hn).2.2.1
              unfold fX10_mode_b77 fX11_mode_b67
              rw [x_modeOf x hn hk0 c4, qb_s, qr_n hn (by decide), qw_n hn (by decide), cl_n (by omega), rm.r7 (by decide) hn]
              by_cases cb : b = A 12 n
              · rw [if_pos (by rw [cb]), if_pos (by rw [cb]), up_id (by rw [cb]; exact rm.r7 (by decide) hn), sa_self]
                exact ⟨_, ux, um, rfl, rfl, stay⟩
              · have ne : ¬ nI b = nI (A 12 n) := fun z => cb (nI_inj (by omega) (by omega) z)
                obtain ⟨vx, vm, w1, w2, w3⟩ := l_own (N := N) (k0 := 12) (i := 2) (b := b) g gl hna t hn (Or.inr ⟨rfl, rfl, hb, c4⟩)
                have w1 : fX6_setOctet L N (q_i ux 30 + nI n) 2 (nI b) ux = some ((), vx) := w1
                rw [if_neg ne, if_neg (fun z => ne z.symm), w2, qb_s]
                unfold fX4_setMode
                rw [w1, qb_s, qb_s]
                exact ⟨_, vx, vm, rfl, rfl, Tn_Iv w3 (Nat.le_trans cnt_up1 (by omega)) (by omega)⟩
            rw [t.wh.1]
            by_cases w0 : q_i um 28 = 0
            · rw [if_pos w0, if_pos w0]
              exact fin
            · rw [if_neg w0, if_neg w0, x_ownerOf x hn hk0, qb_s, qr_n hn (by decide), rm.r7 (by decide) hn]
              by_cases w1 : q_i um 28 = nI (A 11 n)
              · rw [if_pos w1, if_pos w1]
                exact fin
              · rw [if_neg w1, if_neg w1]
                exact ⟨_, ux, um, rfl, rfl, stay⟩
          · rw [if_neg c63, if_neg c63]
            exact ⟨_, ux, um, rfl, rfl, stay⟩
theorem p_give {B T S C W Ls na : Nat} {L : Nat → Nat} {N : Nat} (g : Geo B T S C W Ls) (gl : gL B C W Ls L) (hna : na = 80 + (Ls + 511) / 512) (hN : 140000 ≤ N) : st_give (Iv B T S C W Ls na) L N := by
  intro k ux um x0 x1 hk h
  unfold fX10_give fX11_give
  rcases l_begins (N := N) g gl hna hN hk h with ⟨vx, vm, z1, z2, z3⟩ | ⟨ux, um, D, kv, Ak, nk, K, dd, A, nm, z1, z2, t, c40⟩
  · rw [z1, z2, qb_s, qb_s, if_pos rfl, if_pos rfl]
    exact ⟨_, vx, vm, rfl, rfl, z3⟩
  · rw [z1, z2, qb_s, qb_s, if_neg (by decide), if_neg (by decide)]
    have x := t.x g gl hna
    have rm := t.rm
    have stay : Iv B T S C W Ls na (k + 1) ux um := Tn_Iv t (by omega) (by omega)
    rcases x_refFree (N := N) t g gl hna x0 with ⟨y1, y2⟩ | ⟨n, hn, e, hk0, y1, y2⟩
    · rw [y1, y2, qb_s, qb_s, if_neg (by decide), if_pos rfl]
      exact ⟨_, ux, um, rfl, rfl, stay⟩
    · subst e
      rw [y1, y2, qb_s, qb_s, if_pos rfl, if_neg (show ¬ (1 : Int32) = 0 by decide)]
      by_cases c0 : x1 < 0
      · rw [if_pos c0, if_pos c0]
        exact ⟨_, ux, um, rfl, rfl, stay⟩
      · rw [if_neg c0, if_neg c0]
        by_cases c16 : x1 < 16
        · obtain ⟨b, hb, eb⟩ := i_nat (n := 16) c0 c16 (by decide)
          subst eb
          rw [if_pos c16, if_pos (show nI b ≤ (15 : Int32) from nI_le (b := 15) (by omega) (by omega)), t.wh.1]
          by_cases w0 : q_i um 28 = 0
          · have hA11 := (t.2.2.2.2.2.2.2.1.1.1 n hn).2.1
            rw [if_pos w0, if_pos w0, x_ownerOf x hn hk0, qb_s, qr_n hn (by decide), qw_n hn (by decide), cl_n (by omega), rm.r7 (by decide) hn]
            by_cases cb : b = A 11 n
            · rw [if_pos (by rw [cb]), if_pos (by rw [cb]), up_id (by rw [cb]; exact rm.r7 (by decide) hn), sa_self]
              exact ⟨_, ux, um, rfl, rfl, stay⟩
            · have ne : ¬ nI b = nI (A 11 n) := fun z => cb (nI_inj (by omega) (by omega) z)
              obtain ⟨vx, vm, w1, w2, w3⟩ := l_own (N := N) (k0 := 11) (i := 1) (b := b) g gl hna t hn (Or.inl ⟨rfl, rfl, hb⟩)
              have w1 : fX6_setOctet L N (q_i ux 30 + nI n) 1 (nI b) ux = some ((), vx) := w1
              rw [if_neg ne, if_neg (fun z => ne z.symm), w2, qb_s]
              unfold fX4_setOwner
              rw [w1, qb_s, qb_s]
              exact ⟨_, vx, vm, rfl, rfl, Tn_Iv w3 (Nat.le_trans cnt_up1 (by omega)) (by omega)⟩
          · rw [if_neg w0, if_neg w0]
            exact ⟨_, ux, um, rfl, rfl, stay⟩
        · rw [if_neg c16, if_neg (fun q => c16 (by
            rw [Int32.le_iff_toInt_le] at q
            rw [Int32.lt_iff_toInt_lt]
            have a1 : (15 : Int32).toInt = 15 := by decide
            have a2 : (16 : Int32).toInt = 16 := by decide
            omega))]
          exact ⟨_, ux, um, rfl, rfl, stay⟩
