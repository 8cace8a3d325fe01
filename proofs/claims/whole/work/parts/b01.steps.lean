/-! ===== what stays between calls; the small calls ===== -/
theorem Al_fr {B T S C W Ls na hb hb2 : Nat} {sm : Option Nat} {D kv : Nat → Nat → Int64} {Ak : Nat → Nat → Nat} {nk : Nat → Int64} {ux um vx vm : q_St} (h : Al B T S C W Ls na hb sm D kv Ak nk ux um) (v : VV B T S C W Ls hb2 sm D vx vm) (h24 : q_i vx 24 = q_i ux 24) (h26 : q_i vm 26 = q_i um 26) (hr : ∀ k, 19 ≤ k → k ≤ 34 → k ≠ 33 → q_a vm k = q_a um k) (hj : q_j vm 1 = q_j um 1) (tp : tpR vx vm) (wh : whR vx vm) : Al B T S C W Ls na hb2 sm D kv Ak nk vx vm := by
  obtain ⟨q1, q2, q3, q4, q5, q6, q7, q8⟩ := h
  refine ⟨v, DK_fr q2 h24 h26 (hr 31 (by decide) (by decide) (by decide)) (hr 34 (by decide) (by decide) (by decide)), ?_, q4, q5, q6, tp, wh⟩
  obtain ⟨r1, r2, r3, r4, r6, r7, r8, r9⟩ := q3
  have s7r : ∀ k ∈ s7, 5 ≤ k ∧ k ≤ 18 := by decide
  refine ⟨fun k hk j hj2 => ?_, fun j hj2 => ?_, fun j hj2 => ?_, fun j hj2 => ?_, fun j hj2 => ?_, fun j hj2 => ⟨?_, fun hne => ?_⟩, fun j hj2 => ?_, fun j hj2 => ?_⟩
  · show q_a vm (k + 14) j = _
    rw [hr (k + 14) (by have := s7r k hk; omega) (by have := s7r k hk; omega) (by have := s7r k hk; omega)]
    exact r1 k hk j hj2
  · show q_a vm 24 j = _
    rw [hr 24 (by decide) (by decide) (by decide)]
    exact r2 j hj2
  · show q_a vm 23 j = _
    rw [hr 23 (by decide) (by decide) (by decide)]
    exact r3 j hj2
  · show q_a vm 30 j = _
    rw [hr 30 (by decide) (by decide) (by decide)]
    exact r4 j hj2
  · show q_a vm 27 j = _
    rw [hr 27 (by decide) (by decide) (by decide)]
    exact r6 j hj2
  · show q_a vm 28 j = _
    rw [hr 28 (by decide) (by decide) (by decide)]
    exact (r7 j hj2).1
  · rw [hj]
    exact (r7 j hj2).2 hne
  · show q_a vm 31 j = _
    rw [hr 31 (by decide) (by decide) (by decide)]
    exact r8 j hj2
  · show q_a vm 32 j = _
    rw [hr 32 (by decide) (by decide) (by decide)]
    exact r9 j hj2
theorem On_fr {B T S C W Ls na hb hb2 : Nat} {D kv : Nat → Nat → Int64} {Ak : Nat → Nat → Nat} {ux um vx vm : q_St} (h : On B T S C W Ls na hb D kv Ak ux um) (v : VV B T S C W Ls hb2 none D vx vm) (h7 : q_i vx 7 = q_i ux 7) (hr : ∀ k, 5 ≤ k → k ≤ 18 → q_a vm k = q_a um k) (h31 : q_a vm 31 = q_a um 31) (h33 : q_a vm 33 = q_a um 33) (h25 : q_i vm 25 = q_i um 25) (hj : q_j vm 0 = q_j um 0) (x5 : q_a vx 5 = q_a ux 5) (x22 : q_i vx 22 = q_i ux 22) (x2 : q_j vx 2 = q_j ux 2) : On B T S C W Ls na hb2 D kv Ak vx vm := by
  obtain ⟨q1, q2, K, dd, A, nm, s, ms, c75, h80, rm, tw, rx, nb⟩ := h
  obtain ⟨-, s1, s2, s3⟩ := s
  refine ⟨h7.trans q1, ?_, K, dd, A, nm, ⟨v, ?_, ?_, ?_⟩, ⟨?_, ?_⟩, c75, h80, ?_, tw, rx, nb⟩
  · unfold DH at q2 ⊢
    rw [h31]
    exact q2
  · rw [x5]; exact s1
  · rw [x22]; exact s2
  · rw [x2]; exact s3
  · rw [h33]; exact ms.1
  · rw [h25]; exact ms.2
  · obtain ⟨r1, r2, r3, r4, r6, r7, r8, r9⟩ := rm
    have s7r : ∀ k ∈ s7, 5 ≤ k ∧ k ≤ 18 := by decide
    unfold RM
    rw [hr 10 (by decide) (by decide), hr 9 (by decide) (by decide), hr 16 (by decide) (by decide), hr 13 (by decide) (by decide), hr 14 (by decide) (by decide), hr 17 (by decide) (by decide), hr 18 (by decide) (by decide), hj]
    exact ⟨fun k hk j hj2 => by rw [hr k (s7r k hk).1 (s7r k hk).2]; exact r1 k hk j hj2, r2, r3, r4, r6, r7, r8, r9⟩
theorem Iv_up {B T S C W Ls na k : Nat} {ux um : q_St} (h : Iv B T S C W Ls na k ux um) : Iv B T S C W Ls na (k + 1) ux um := by
  obtain ⟨sm, D, kv, Ak, nk, al, on⟩ := h
  have v := VV_le al.1 (show 300 * k ≤ 300 * (k + 1) by omega)
  refine ⟨sm, D, kv, Ak, nk, ⟨v, al.2⟩, ?_⟩
  rcases on with q | ⟨q1, q2⟩
  · exact Or.inl q
  · refine Or.inr ⟨q1, ?_⟩
    rw [q1] at v
    exact On_fr q2 v rfl (fun _ _ _ => rfl) rfl rfl rfl rfl rfl rfl rfl
theorem Iv_on {B T S C W Ls na k : Nat} {ux um : q_St} (h : Iv B T S C W Ls na k ux um) : q_i um 9 = q_i ux 7 := by
  obtain ⟨sm, D, kv, Ak, nk, al, on⟩ := h
  exact al.1.cr.1.symm
theorem VV_cut {B T S C W Ls hb : Nat} {sm : Option Nat} {D : Nat → Nat → Int64} {ux um : q_St} (c : Int32) (v : VV B T S C W Ls hb sm D ux um) : VV B T S C W Ls hb sm D (q_si ux 8 c) (q_si um 10 c) := by
  obtain ⟨h, t, cl, hhb, ⟨⟨gx, gm⟩, vw, vr, cr, lr, kr, vc, e1, e2, e3, e4⟩, hmk, hd⟩ := v
  refine ⟨h, t, cl, hhb, ⟨⟨gx, gm⟩, vw, vr, ?_, lr, kR_keep kr (fun k q1 q2 => qi_ne (by omega)) (fun k q1 q2 => qi_ne (by omega)), vc, e1, e2, e3, e4⟩, hmk, hd⟩
  exact ⟨cr.1, rfl, cr.2.2.1, cr.2.2.2.1, cr.2.2.2.2.1, cr.2.2.2.2.2.1, cr.2.2.2.2.2.2.1, cr.2.2.2.2.2.2.2.1, cr.2.2.2.2.2.2.2.2⟩
theorem Iv_cut {B T S C W Ls na k : Nat} {ux um : q_St} (c : Int32) (h : Iv B T S C W Ls na k ux um) : Iv B T S C W Ls na k (q_si ux 8 c) (q_si um 10 c) := by
  obtain ⟨sm, D, kv, Ak, nk, al, on⟩ := h
  have v := VV_cut c al.1
  refine ⟨sm, D, kv, Ak, nk, Al_fr al v rfl rfl (fun _ _ _ _ => rfl) rfl al.2.2.2.2.2.2.1 al.2.2.2.2.2.2.2, ?_⟩
  rcases on with q | ⟨q1, q2⟩
  · exact Or.inl q
  · refine Or.inr ⟨q1, ?_⟩
    rw [q1] at v
    exact On_fr q2 v rfl (fun _ _ _ => rfl) rfl rfl rfl rfl rfl rfl rfl
theorem Iv_7 {B T S C W Ls na k : Nat} {ux um : q_St} (h : Iv B T S C W Ls na k ux um) : q_i ux 7 = 0 ∨ q_i ux 7 = 1 := by
  obtain ⟨sm, D, kv, Ak, nk, al, on⟩ := h
  rcases on with q | ⟨q1, q2⟩
  · exact Or.inl q
  · exact Or.inr q2.1
theorem p_power {B T S C W Ls na : Nat} {L : Nat → Nat} {N : Nat} : st_power (Iv B T S C W Ls na) L N := by
  intro k ux um x0 hk h
  have e9 := Iv_on h
  have hm : q_max x0 (-1) = if 0 ≤ x0 then x0 else -1 := by
    unfold q_max
    by_cases c : 0 ≤ x0
    · rw [if_pos c, if_neg (by rw [Int32.lt_iff_toInt_lt]; rw [Int32.le_iff_toInt_le] at c; have : (-1 : Int32).toInt = -1 := by decide
                               have : (0 : Int32).toInt = 0 := by decide
                               omega)]
    · rw [if_neg c]
      by_cases c2 : x0 < -1
      · rw [if_pos c2]
      · rw [if_neg c2]
        rw [Int32.le_iff_toInt_le] at c
        rw [Int32.lt_iff_toInt_lt] at c2
        have a1 : (-1 : Int32).toInt = -1 := by decide
        have a2 : (0 : Int32).toInt = 0 := by decide
        exact Int32.toInt_inj.mp (by omega)
  have hM : fX11_power N x0 um = fX11_power_b10 N (q_max x0 (-1)) um := by
    unfold fX11_power
    rw [hm]
    by_cases c : 0 ≤ x0
    · rw [if_pos c, if_pos c]
    · rw [if_neg c, if_neg c]
  have hq : q_i ux 7 = 0 ∨ q_i ux 7 = 1 := Iv_7 h
  refine ⟨q_i ux 7, q_si ux 8 (q_max x0 (-1)), q_si um 10 (q_max x0 (-1)), ?_, ?_, Iv_up (Iv_cut _ h)⟩
  · unfold fX10_power
    rw [qn_s]
    unfold q_rz
    rw [qi_ne (show (7 : Nat) ≠ 8 by decide), if_pos hq]
  · rw [hM]
    unfold fX11_power_b10
    rw [qn_s]
    unfold q_rz
    rw [qi_ne (show (9 : Nat) ≠ 10 by decide), e9, if_pos hq]
theorem Iv_tp {B T S C W Ls na k : Nat} {ux um vx vm : q_St} (h : Iv B T S C W Ls na k ux um) (hx : Fr [32] [8] [] ux vx) (hm : Fr [27] [35] [] um vm) (tp : tpR vx vm) : Iv B T S C W Ls na k vx vm := by
  obtain ⟨sm, D, kv, Ak, nk, al, on⟩ := h
  have ri : ∀ k, k ≠ 32 → q_i vx k = q_i ux k := fun k hk => hx.1 k (by simp [hk])
  have ra : ∀ k, k ≠ 8 → q_a vx k = q_a ux k := fun k hk => hx.2.1 k (by simp [hk])
  have rj : ∀ k, q_j vx k = q_j ux k := fun k => hx.2.2 k (by simp)
  have mi : ∀ k, k ≠ 27 → q_i vm k = q_i um k := fun k hk => hm.1 k (by simp [hk])
  have ma : ∀ k, k ≠ 35 → q_a vm k = q_a um k := fun k hk => hm.2.1 k (by simp [hk])
  have mj : ∀ k, q_j vm k = q_j um k := fun k => hm.2.2 k (by simp)
  have v := VV_fr al.1 (fun k _ _ _ _ q => ri k q) (fun k q => ra k (by omega)) (rj 0) (fun k q => mi k (by omega)) (fun k q => ma k (by omega))
  have wh : whR vx vm := by
    obtain ⟨w1, w, w2, w3⟩ := al.2.2.2.2.2.2.2
    exact ⟨by rw [ri 0 (by decide), mi 28 (by decide)]; exact w1, w, w2, by rw [mi 28 (by decide)]; exact w3⟩
  refine ⟨sm, D, kv, Ak, nk, Al_fr al v (ri 24 (by decide)) (mi 26 (by decide)) (fun k q1 q2 q3 => ma k (by omega)) (mj 1) tp wh, ?_⟩
  rcases on with q | ⟨q1, q2⟩
  · exact Or.inl ((ri 7 (by decide)).trans q)
  · refine Or.inr ⟨q1, ?_⟩
    rw [q1] at v
    exact On_fr q2 v (ri 7 (by decide)) (fun k w1 w2 => ma k (by omega)) (ma 31 (by decide)) (ma 33 (by decide)) (mi 25 (by decide)) (mj 0) (ra 5 (by decide)) (ri 22 (by decide)) (rj 2)
theorem p_end {B T S C W Ls na : Nat} {L : Nat → Nat} {N : Nat} : st_end (Iq B T S C W Ls na) L N := by
  intro k ux um x0 hk hq
  obtain ⟨h, eq⟩ := hq
  obtain ⟨sm, D, kv, Ak, nk, al, on⟩ := id h
  obtain ⟨n, m, n0, n1, n2, n3, n4⟩ := al.2.2.2.2.2.2.1
  have emn : m = n := by
    rw [n2, n3] at eq
    exact (nI_inj (by omega) (by omega) eq).symm
  subst emn
  unfold fX10_end fX11_end
  rw [n2, n3]
  by_cases c1 : x0 < 0
  · rw [if_pos c1, if_pos c1]
    exact ⟨0, ux, um, rfl, rfl, Iv_up h, eq⟩
  · rw [if_neg c1, if_neg c1]
    by_cases c2 : x0 ≤ nI m
    · rw [if_pos c2, if_pos c2, qn_s, qn_s]
      refine ⟨1, _, _, rfl, rfl, Iv_up (Iv_tp h (fr_si1 ux (by decide)) (fr_si1 um (by decide)) ?_), rfl⟩
      have h0 : 0 ≤ x0.toInt := by
        have := i_nlt.mp c1
        rw [Int32.le_iff_toInt_le] at this
        have a2 : (0 : Int32).toInt = 0 := by decide
        omega
      have h1 : x0.toInt ≤ m := by
        rw [Int32.le_iff_toInt_le, nI_toInt (by omega)] at c2
        exact c2
      have e : x0 = nI x0.toInt.toNat := by
        refine Int32.toInt_inj.mp ?_
        rw [nI_toInt (by omega)]
        omega
      refine ⟨x0.toInt.toNat, x0.toInt.toNat, Or.inl rfl, by omega, e, e, fun i hi => ?_⟩
      exact n4 i (by omega)
    · rw [if_neg c2, if_neg c2]
      exact ⟨0, ux, um, rfl, rfl, Iv_up h, eq⟩
