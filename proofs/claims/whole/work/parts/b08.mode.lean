/-! ===== one number of a NODE is changed: mode, give ===== -/
def setA (A : Nat → Nat → Nat) (k j v : Nat) : Nat → Nat → Nat := fun k' j' => if k' = k ∧ j' = j then v else A k' j'
theorem setA_k {A : Nat → Nat → Nat} {k j v k' : Nat} (h : k' ≠ k) : setA A k j v k' = A k' := by funext j'; unfold setA; rw [if_neg (fun z => h z.1)]
theorem setA_s {A : Nat → Nat → Nat} {k j v : Nat} : setA A k j v k j = v := if_pos ⟨rfl, rfl⟩
theorem setA_n {A : Nat → Nat → Nat} {k j v j' : Nat} (h : j' ≠ j) : setA A k j v k j' = A k j' := if_neg (fun z => h z.2)
theorem setA_id {A : Nat → Nat → Nat} {k j v : Nat} (h : A k j = v) : setA A k j v = A := by
  funext k' j'
  unfold setA
  split
  · rename_i e; rw [e.1, e.2, h]
  · rfl
/-- bits of a word that a byte or a half leaves alone -/
theorem hi_set {r : Int64} {i n : Nat} (hi : i < 4) (hn : n < 256) : uN (sOc r i n) >>> 32 = uN r >>> 32 := by
  refine Nat.eq_of_testBit_eq fun b => ?_
  rw [Nat.testBit_shiftRight, Nat.testBit_shiftRight]
  show bt (sOc r i n) (32 + b) = bt r (32 + b)
  by_cases hb : 32 + b < 64
  · unfold sOc
    rw [bt_set (k := 8) (n := n) (by omega) (by decide) (by decide +kernel) (by rw [uN_and, uN_i2l (by omega), show uN 255 = 2 ^ 8 - 1 from by decide +kernel, Nat.and_two_pow_sub_one_eq_mod]) hb, if_neg (by omega)]
  · rw [bt_hi _ (by omega), bt_hi _ (by omega)]
theorem oc_set {r : Int64} {i n : Nat} (hi : i < 8) (hn : n < 256) {j : Nat} (hj : j < 8) : ocN (sOc r i n) j = if j = i then n else ocN r j := by
  unfold sOc
  exact ocN_set hi hn (by decide +kernel) (by rw [uN_and, uN_i2l (by omega), show uN 255 = 2 ^ 8 - 1 from by decide +kernel, Nat.and_two_pow_sub_one_eq_mod]) hj
/-- rows that say nothing of SECTORS or SLOTS -/
theorem tl_sc {A A2 : Nat → Nat → Nat} {W : Nat} (h5 : A2 5 = A 5) (h8 : A2 8 = A 8) (h9 : A2 9 = A 9) (h10 : A2 10 = A 10) (h13 : A2 13 = A 13) : tl A2 W = tl A W := by
  funext n r
  unfold tl
  rw [h5, h8, h9, h10, h13]
theorem RX_sc {W Ls na n k0 v : Nat} {A : Nat → Nat → Nat} {nm : Nat → Int64} {K K2 : Nat → Nat → Int64} (hna : na = 80 + (Ls + 511) / 512) (t3 : TW3 W Ls (na + 64) A) (h0 : k0 = 6 ∨ k0 = 7 ∨ k0 = 11 ∨ k0 = 12 ∨ k0 = 15) (hn : n < 64) (r : RX W Ls na A nm K) (hK : ∀ y w, y ≠ na + n → K2 y w = K y w) (hm : mNode (setA A k0 n v) W n (K2 (na + n))) : RX W Ls na (setA A k0 n v) nm K2 := by
  obtain ⟨r1, r2, r3⟩ := r
  have e5 : setA A k0 n v 5 = A 5 := setA_k (by omega)
  have e8 : setA A k0 n v 8 = A 8 := setA_k (by omega)
  have e9 : setA A k0 n v 9 = A 9 := setA_k (by omega)
  have e10 : setA A k0 n v 10 = A 10 := setA_k (by omega)
  have e13 : setA A k0 n v 13 = A 13 := setA_k (by omega)
  have e14 : setA A k0 n v 14 = A 14 := setA_k (by omega)
  have e16 : setA A k0 n v 16 = A 16 := setA_k (by omega)
  have e17 : setA A k0 n v 17 = A 17 := setA_k (by omega)
  have e18 : setA A k0 n v 18 = A 18 := setA_k (by omega)
  have hrow : ∀ k m, m ≠ n → setA A k0 n v k m = A k m := by
    intro k m hm2
    unfold setA
    rw [if_neg (fun z => hm2 z.2)]
  refine ⟨fun x hx => ?_, fun m hm2 => ?_, fun m r hm2 ht => ?_⟩
  · rw [hK _ _ (by omega), e17]; exact r1 x hx
  · by_cases c : m = n
    · rw [c]; exact hm
    · have := r2 m hm2
      have eK : K2 (na + m) = K (na + m) := by funext w; exact hK _ _ (by omega)
      rw [eK]
      unfold mNode at this ⊢
      rw [e5, e8, e9, e10, e13, e16, hrow 6 m c, hrow 7 m c, hrow 11 m c, hrow 12 m c, hrow 15 m c]
      exact this
  · rw [tl_sc e5 e8 e9 e10 e13] at ht ⊢
    have := r3 m r hm2 ht
    have hr := t3.2.1 m r hm2 ht
    have eK : K2 (tl A W m r) = K (tl A W m r) := by funext w; exact hK _ _ (by omega)
    rw [eK]
    unfold mRole at this ⊢
    rw [e5, e9, e10, e14, e18]
    exact this
theorem TW_ow {B W Ls fb n k0 v : Nat} {A : Nat → Nat → Nat} {nm : Nat → Int64} (t : TW B W Ls fb A nm) (h0 : (k0 = 11 ∧ v < 16) ∨ (k0 = 12 ∧ v < 64)) : TW B W Ls fb (setA A k0 n v) nm := by
  obtain ⟨t1, t2, t3, t4⟩ := t
  have e : ∀ k, k ≠ 11 → k ≠ 12 → setA A k0 n v k = A k := fun k h1 h2 => setA_k (by omega)
  have e5 := e 5 (by decide) (by decide)
  have e6 := e 6 (by decide) (by decide)
  have e7 := e 7 (by decide) (by decide)
  have e8 := e 8 (by decide) (by decide)
  have e9 := e 9 (by decide) (by decide)
  have e10 := e 10 (by decide) (by decide)
  have e13 := e 13 (by decide) (by decide)
  have e14 := e 14 (by decide) (by decide)
  have e15 := e 15 (by decide) (by decide)
  have e16 := e 16 (by decide) (by decide)
  have e17 := e 17 (by decide) (by decide)
  have e18 := e 18 (by decide) (by decide)
  have eu : ∀ k n', upn (setA A k0 n v) k n' = upn A k n' := upn_cg e7
  refine ⟨?_, ?_, ?_, ?_⟩
  · unfold TW1 at t1 ⊢
    rw [e5, e6, e7, e8, e13, e15, e16, e17, e18]
    obtain ⟨q1, q2⟩ := t1
    refine ⟨fun m hm => ?_, q2⟩
    obtain ⟨p1, p2, p3, p4⟩ := q1 m hm
    refine ⟨p1, ?_, ?_, p4⟩
    · unfold setA
      split
      · omega
      · exact p2
    · unfold setA
      split
      · omega
      · exact p3
  · unfold TW2 szp at t2 ⊢
    rw [e5, e6, e9, e10]
    exact t2
  · unfold TW3 at t3 ⊢
    rw [tl_sc e5 e8 e9 e10 e13, e17]
    exact t3
  · unfold TW4 at t4 ⊢
    rw [e5, e7, e8, e14, e15]
    simp only [eu]
    exact t4
/-- the reference writes one number of a NODE -/
theorem RM_7 {Ls n k0 v : Nat} {A : Nat → Nat → Nat} {nm : Nat → Int64} {um : q_St} (r : RM Ls A nm (q_a um) (q_j um 0)) (h0 : k0 ∈ s7) : RM Ls (setA A k0 n v) nm (q_a (q_sa um k0 (upd (q_a um k0) n (nI v)))) (q_j (q_sa um k0 (upd (q_a um k0) n (nI v))) 0) := by
  obtain ⟨r1, r2, r3, r4, r6, r7, r8, r9⟩ := r
  have hk0 : k0 ≠ 10 ∧ k0 ≠ 9 ∧ k0 ≠ 16 ∧ k0 ≠ 13 ∧ k0 ≠ 14 ∧ k0 ≠ 17 ∧ k0 ≠ 18 := by
    simp only [List.mem_cons, List.not_mem_nil, or_false] at h0
    omega
  refine ⟨fun k hk j hj => ?_, ?_, ?_, ?_, ?_, ?_, ?_, ?_⟩
  · by_cases c : k = k0
    · rw [c, qa_eq]
      by_cases c2 : j = n
      · rw [c2, up_s, setA_s]
      · rw [up_n c2, setA_n c2]
        exact r1 k0 h0 j hj
    · rw [qa_ne c, setA_k c]
      exact r1 k hk j hj
  · rw [qa_ne (Ne.symm hk0.1), setA_k (Ne.symm hk0.1)]; exact r2
  · rw [qa_ne (Ne.symm hk0.2.1), setA_k (Ne.symm hk0.2.1)]; exact r3
  · rw [qa_ne (Ne.symm hk0.2.2.1), setA_k (Ne.symm hk0.2.2.1)]; exact r4
  · rw [qa_ne (Ne.symm hk0.2.2.2.1), setA_k (Ne.symm hk0.2.2.2.1)]; exact r6
  · rw [qa_ne (Ne.symm hk0.2.2.2.2.1), setA_k (Ne.symm hk0.2.2.2.2.1)]; exact r7
  · rw [qa_ne (Ne.symm hk0.2.2.2.2.2.1), setA_k (Ne.symm hk0.2.2.2.2.2.1)]; exact r8
  · rw [qa_ne (Ne.symm hk0.2.2.2.2.2.2), setA_k (Ne.symm hk0.2.2.2.2.2.2)]; exact r9
theorem RM_fr {Ls : Nat} {A : Nat → Nat → Nat} {nm : Nat → Int64} {um vm : q_St} (r : RM Ls A nm (q_a um) (q_j um 0)) (h : ∀ k, 5 ≤ k → k ≤ 18 → q_a vm k = q_a um k) (hj : q_j vm 0 = q_j um 0) : RM Ls A nm (q_a vm) (q_j vm 0) := by
  obtain ⟨r1, r2, r3, r4, r6, r7, r8, r9⟩ := r
  have s7r : ∀ k ∈ s7, 5 ≤ k ∧ k ≤ 18 := by decide
  unfold RM
  rw [h 10 (by decide) (by decide), h 9 (by decide) (by decide), h 16 (by decide) (by decide), h 13 (by decide) (by decide), h 14 (by decide) (by decide), h 17 (by decide) (by decide), h 18 (by decide) (by decide), hj]
  exact ⟨fun k hk j hj2 => by rw [h k (s7r k hk).1 (s7r k hk).2]; exact r1 k hk j hj2, r2, r3, r4, r6, r7, r8, r9⟩
theorem m_soilNode {B T S C W Ls na n : Nat} {dd : Nat → Bool} {N : Nat} {um : q_St} (g : Geo B T S C W Ls) (hna : na = 80 + (Ls + 511) / 512) (h8 : q_i um 8 = nI (80 + (Ls + 511) / 512)) (s : MS Ls dd um) (hn : n < 64) : ∃ vm, fX11_soilNode N (nI n) um = some ((), vm) ∧ MS Ls (setb dd (na + n) true) vm := by
  have hl := g.l
  obtain ⟨vm, f1, f2⟩ := m_soil (N := N) hl.2 s (x := na + n) (by omega)
  refine ⟨vm, ?_, f2⟩
  unfold fX11_soilNode
  rw [h8, ← hna, nI_add, f1, qb_s]
/-- the end of a call that changed the tree -/
theorem Tn_end {B T S C W Ls na hb : Nat} {D kv : Nat → Nat → Int64} {Ak : Nat → Nat → Nat} {nk : Nat → Int64} {K K2 : Nat → Nat → Int64} {dd dd2 ddm : Nat → Bool} {A A2 : Nat → Nat → Nat} {nm nm2 : Nat → Int64} {ux um vx vm : q_St} (t : Tn B T S C W Ls na hb D kv Ak nk K dd A nm ux um) (xs : XS B T S C W Ls hb um D K2 dd2 vx) (ms : MS Ls ddm vm) (hdd : ∀ x, x < Ls → ddm x = dd2 x) (h80 : ∀ x, x < Ls → dd2 x = true → 80 ≤ x ∧ A2 17 x = 1) (rm : RM Ls A2 nm2 (q_a vm) (q_j vm 0)) (tw : TW B W Ls (na + 64) A2 nm2) (rx : RX W Ls na A2 nm2 K2) (nb : NB W A2 Ak dd2) (x7 : q_i vx 7 = q_i ux 7) (x24 : q_i vx 24 = q_i ux 24) (x0 : q_i vx 0 = q_i ux 0) (tp : tpR vx vm) (mi : ∀ k, k ≠ 25 → k ≠ 27 → k ≤ 28 → q_i vm k = q_i um k) (ma : ∀ k, (k ≤ 4 ∨ 19 ≤ k) → k ≤ 34 → k ≠ 33 → q_a vm k = q_a um k) (mj : q_j vm 1 = q_j um 1) : Tn B T S C W Ls na hb D kv Ak nk K2 dd2 A2 nm2 vx vm := by
  obtain ⟨al, h7, dh, -⟩ := t
  have v : VV B T S C W Ls hb none D vx vm := VV_fr xs.1 (fun _ _ _ _ _ _ => rfl) (fun _ _ => rfl) rfl (fun k q => mi k (by omega) (by omega) (by omega)) (fun k q => ma k (by omega) (by omega) (by omega))
  have wh : whR vx vm := whR_fr al.2.2.2.2.2.2.2 x0 (mi 28 (by decide) (by decide) (by decide))
  refine ⟨Al_fr al v x24 (mi 26 (by decide) (by decide) (by decide)) (fun k q1 q2 q3 => ma k (by omega) q2 q3) mj tp wh, x7.trans h7, ?_, ⟨v, xs.2⟩, ⟨fun x hx => by rw [ms.1 x hx, hdd x hx], by rw [ms.2, cnt_congr hdd]⟩, h80, rm, tw, rx, nb⟩
  unfold DH at dh ⊢
  rw [ma 31 (by omega) (by omega) (by omega)]
  exact dh
theorem cnt_up1 {P : Nat → Bool} {x n : Nat} : cnt (setb P x true) n ≤ cnt P n + 1 := by
  induction n with
  | zero => simp [cnt]
  | succ n ih =>
    simp only [cnt]
    by_cases c : n = x
    · have : cnt (setb P x true) n = cnt P n := cnt_congr (fun i hi => setb_n (by omega))
      rw [this]
      split <;> split <;> omega
    · rw [setb_n c]
      omega
theorem NB_sc {W n k0 v : Nat} {A Ak : Nat → Nat → Nat} {dd : Nat → Bool} {y : Nat} (h0 : k0 = 6 ∨ k0 = 7 ∨ k0 = 11 ∨ k0 = 12 ∨ k0 = 15) (nb : NB W A Ak dd) : NB W (setA A k0 n v) Ak (setb dd y true) := by
  have e5 : setA A k0 n v 5 = A 5 := setA_k (by omega)
  have e8 : setA A k0 n v 8 = A 8 := setA_k (by omega)
  have e9 : setA A k0 n v 9 = A 9 := setA_k (by omega)
  have e10 : setA A k0 n v 10 = A 10 := setA_k (by omega)
  have e13 : setA A k0 n v 13 = A 13 := setA_k (by omega)
  have e18 : setA A k0 n v 18 = A 18 := setA_k (by omega)
  unfold NB
  rw [tl_sc e5 e8 e9 e10 e13, e5, e18]
  intro m r hm q ht hd j hj
  refine nb m r hm q ht ?_ j hj
  unfold setb at hd
  split at hd
  · cases hd
  · exact hd
/-- owner and mode -/
theorem l_own {B T S C W Ls na hb n k0 i b : Nat} {D kv : Nat → Nat → Int64} {Ak : Nat → Nat → Nat} {nk : Nat → Int64} {K : Nat → Nat → Int64} {dd : Nat → Bool} {A : Nat → Nat → Nat} {nm : Nat → Int64} {L : Nat → Nat} {N : Nat} {ux um : q_St} (g : Geo B T S C W Ls) (gl : gL B C W Ls L) (hna : na = 80 + (Ls + 511) / 512) (t : Tn B T S C W Ls na hb D kv Ak nk K dd A nm ux um) (hn : n < 64) (h0 : (k0 = 11 ∧ i = 1 ∧ b < 16) ∨ (k0 = 12 ∧ i = 2 ∧ b < 64 ∧ A 5 n ≠ 4)) :
    ∃ vx vm, fX6_setOctet L N (q_i ux 30 + nI n) (nI i) (nI b) ux = some ((), vx) ∧ fX11_soilNode N (nI n) (q_sa um k0 (upd (q_a um k0) n (nI b))) = some ((), vm) ∧ Tn B T S C W Ls na hb D kv Ak nk (setO K (na + n) i b) (setb dd (na + n) true) (setA A k0 n b) nm vx vm := by
  obtain ⟨al, h7, dh, xs, ms, h80, rm, tw, rx, nb⟩ := id t
  have hl := g.l
  have x : Xr B T S C W Ls na hb um D K dd A nm L ux := ⟨⟨g, gl, hna⟩, xs, rx, tw⟩
  have e30 := x.na30.1
  obtain ⟨vx, f1, f2⟩ := x_setOctet (N := N) (n := b) g gl xs (x := na + n) (i := i) (by omega) (by omega)
  have gm := al.1.gm
  have ms2 : MS Ls dd (q_sa um k0 (upd (q_a um k0) n (nI b))) := ⟨by rw [qa_ne (by omega)]; exact ms.1, ms.2⟩
  obtain ⟨vm, m1, m2⟩ := m_soilNode (N := N) (n := n) g hna (um := q_sa um k0 (upd (q_a um k0) n (nI b))) gm.2.2.2.2.2.2.2.2 ms2 hn
  have fx := fr_X6_setOctet f1
  have fm := fr_X11_soilNode m1
  have hk0 : k0 ∈ s7 := by
    rcases h0 with ⟨e, -⟩ | ⟨e, -⟩ <;> (rw [e]; decide)
  have hfb : na + n < na + 64 := by omega
  refine ⟨vx, vm, by rw [e30, nI_add]; exact f1, m1, ?_⟩
  refine Tn_end t f2 m2 (fun _ _ => rfl) (fun x hx hd => ?_) (RM_fr (RM_7 rm hk0) (fun k q1 q2 => fm.2.1 k (by simp only [List.mem_cons, List.not_mem_nil, or_false]; omega)) (fm.2.2 0 (by decide))) (TW_ow tw (by omega)) ?_ (NB_sc (by omega) nb) (fx.1 7 (by decide)) (fx.1 24 (by decide)) (fx.1 0 (by decide)) ?_ (fun k q1 q2 q3 => ?_) (fun k q1 q2 q3 => ?_) ?_
  · rw [setA_k (show (17 : Nat) ≠ k0 by omega)]
    unfold setb at hd
    split at hd
    · rename_i e
      exact ⟨by omega, tw.2.2.1.2.2.2 x (by omega)⟩
    · exact h80 x hx hd
  · refine RX_sc hna tw.2.2.1 (by omega) hn rx (fun y w hy => setO_w (fun z => hy z.1)) ?_
    have m := rx.2.1 n hn
    obtain ⟨p1, p2, p3, p4, p5, p6⟩ := m
    have w0 : setO K (na + n) i b (na + n) 0 = sOc (K (na + n) 0) i b := by
      unfold setO
      rw [show i / 8 = 0 by omega, show i % 8 = i by omega]
      exact setW_s
    have ww : ∀ w, w ≠ 0 → setO K (na + n) i b (na + n) w = K (na + n) w := fun w hw => setO_w (fun z => hw (by omega))
    have hsH : ∀ j, 4 ≤ j → sH (setO K (na + n) i b (na + n)) j = sH (K (na + n)) j := fun j hj => by unfold sH; rw [ww _ (by omega)]
    have hsO : ∀ j, 8 ≤ j → sO (setO K (na + n) i b (na + n)) j = sO (K (na + n)) j := fun j hj => by unfold sO; rw [ww _ (by omega)]
    have o : ∀ j, j < 4 → ocN (setO K (na + n) i b (na + n) 0) j = if j = i then b else ocN (K (na + n) 0) j := fun j hj => by rw [w0]; exact oc_set (by omega) (by omega) (by omega)
    have e5 : setA A k0 n b 5 = A 5 := setA_k (by omega)
    have e6 : setA A k0 n b 6 = A 6 := setA_k (by omega)
    have e7 : setA A k0 n b 7 = A 7 := setA_k (by omega)
    have e8 : setA A k0 n b 8 = A 8 := setA_k (by omega)
    have e9 : setA A k0 n b 9 = A 9 := setA_k (by omega)
    have e10 : setA A k0 n b 10 = A 10 := setA_k (by omega)
    have e13 : setA A k0 n b 13 = A 13 := setA_k (by omega)
    have e15 : setA A k0 n b 15 = A 15 := setA_k (by omega)
    have e16 : setA A k0 n b 16 = A 16 := setA_k (by omega)
    unfold mNode
    rw [e5, e6, e7, e8, e9, e10, e13, e15, e16, w0, hi_set (by omega) (by omega), ← w0]
    refine ⟨by rw [o 0 (by omega), if_neg (by omega)]; exact p1, fun q => ⟨?_, ?_, ?_, (p2 q).2.2.2⟩, fun q => ⟨fun k hk => ?_, ?_⟩, fun q => ⟨fun k hk => ?_, ?_, ?_⟩, fun q => ?_, fun q j hj => ?_⟩
    · rw [o 1 (by omega)]
      rcases h0 with ⟨a1, a2, a3⟩ | ⟨a1, a2, a3, a4⟩
      · rw [if_pos a2.symm, a1, setA_s]
      · rw [if_neg (by omega), setA_k (by omega)]; exact (p2 q).1
    · rw [o 2 (by omega)]
      rcases h0 with ⟨a1, a2, a3⟩ | ⟨a1, a2, a3, a4⟩
      · rw [if_neg (by omega), setA_k (show (12 : Nat) ≠ k0 by omega)]; exact (p2 q).2.1
      · rw [if_pos a2.symm, if_neg a4, a1, setA_s]
    · rw [o 3 (by omega), if_neg (by omega)]; exact (p2 q).2.2.1
    · rw [hsH _ (by omega)]; exact (p3 q).1 k hk
    · rw [hsH _ (by omega)]; exact (p3 q).2
    · rw [hsH _ (by omega)]; exact (p4 q).1 k hk
    · rw [hsH _ (by omega)]; exact (p4 q).2.1
    · rw [hsH _ (by omega)]; exact (p4 q).2.2
    · rw [hsH _ (by omega)]; exact p5 q
    · rw [hsO _ (by omega)]; exact p6 q j hj
  · exact tpR_fr al.2.2.2.2.2.2.1 (fx.1 32 (by decide)) (fm.1 27 (by decide)) (fx.2.1 8 (by decide)) ((fm.2.1 35 (by decide)).trans (qa_ne (by omega)))
  · exact fm.1 k (by simp only [List.mem_cons, List.not_mem_nil, or_false]; omega)
  · rw [fm.2.1 k (by simp only [List.mem_cons, List.not_mem_nil, or_false]; omega), qa_ne (by omega)]
  · exact fm.2.2 1 (by decide)
