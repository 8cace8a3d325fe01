/-! ===== lay: the band is streamed, nothing is told of it yet ===== -/
theorem wr_TW {B W Ls fb X c : Nat} {A : Nat → Nat → Nat} {nm : Nat → Int64} {f : Nat → Nat} (t : TW B W Ls fb A nm) (hf : ∀ i, f i < 256) : TW B W Ls fb (wrA A X 0 c f) nm := by
  have e : ∀ k, k ≠ 18 → wrA A X 0 c f k = A k := fun k hk => wrA_k hk
  have et : tl (wrA A X 0 c f) W = tl A W := tl_sc (e 5 (by decide)) (e 8 (by decide)) (e 9 (by decide)) (e 10 (by decide)) (e 13 (by decide))
  obtain ⟨q1, q2, q3, q4⟩ := t
  refine ⟨?_, ?_, ?_, ?_⟩
  · unfold TW1 at q1 ⊢
    rw [e 5 (by decide), e 6 (by decide), e 7 (by decide), e 8 (by decide), e 11 (by decide), e 12 (by decide), e 13 (by decide), e 15 (by decide), e 16 (by decide), e 17 (by decide)]
    obtain ⟨p1, p2, p3, p4, p5, p6, p7, p8⟩ := q1
    refine ⟨p1, p2, p3, p4, p5, p6, fun j => ?_, p8⟩
    rw [wrA_18]
    split
    · exact hf _
    · exact p7 j
  · have es : szp (wrA A X 0 c f) = szp A := by funext m; unfold szp; rw [e 6 (by decide)]
    unfold TW2 at q2 ⊢
    rw [es, e 5 (by decide), e 9 (by decide), e 10 (by decide)]
    exact q2
  · unfold TW3 at q3 ⊢
    rw [et, e 17 (by decide)]
    exact q3
  · unfold TW4 at q4 ⊢
    rw [e 5 (by decide), e 7 (by decide), e 8 (by decide), e 14 (by decide), e 15 (by decide)]
    simp only [upn_cg (e 7 (by decide))]
    exact q4
theorem wr_RX {W Ls na X : Nat} {A : Nat → Nat → Nat} {nm : Nat → Int64} {K K2 : Nat → Nat → Int64} {f : Nat → Nat} (hX : na + 64 ≤ X) (hL : Ls ≤ 2048) (hna : na = 80 + (Ls + 511) / 512) (rx : RX W Ls na A nm K) (hK : ∀ y j, y < X ∨ X + W ≤ y → K2 y j = K y j) (hno : ∀ m r, m < 64 → tl A W m r ≠ 0 → tl A W m r < X ∨ X + W ≤ tl A W m r) : RX W Ls na (wrA A X 0 (64 * W) f) nm K2 := by
  have e : ∀ k, k ≠ 18 → wrA A X 0 (64 * W) f k = A k := fun k hk => wrA_k hk
  have et : tl (wrA A X 0 (64 * W) f) W = tl A W := tl_sc (e 5 (by decide)) (e 8 (by decide)) (e 9 (by decide)) (e 10 (by decide)) (e 13 (by decide))
  obtain ⟨r1, r2, r3⟩ := rx
  refine ⟨fun y hy => ?_, fun m hm => ?_, fun m r hm ht => ?_⟩
  · rw [hK _ _ (by omega), e 17 (by decide)]
    exact r1 y hy
  · have q := r2 m hm
    have eK : K2 (na + m) = K (na + m) := by funext j; exact hK _ _ (by omega)
    rw [eK]
    unfold mNode at q ⊢
    rw [e 5 (by decide), e 6 (by decide), e 7 (by decide), e 8 (by decide), e 9 (by decide), e 10 (by decide), e 11 (by decide), e 12 (by decide), e 13 (by decide), e 15 (by decide), e 16 (by decide)]
    exact q
  · rw [et] at ht ⊢
    have ho := hno m r hm ht
    have eK : K2 (tl A W m r) = K (tl A W m r) := by funext j; exact hK _ _ ho
    obtain ⟨o1, o2, o3, o4, o5⟩ := r3 m r hm ht
    rw [eK]
    unfold mRole
    rw [e 5 (by decide), e 9 (by decide), e 10 (by decide), e 14 (by decide)]
    refine ⟨fun z j hj => ?_, o2, o3, o4, o5⟩
    rw [wrA_18, if_neg (by omega)]
    exact o1 z j hj
theorem in_bnd {W b x : Nat} (hW : 0 < W) : x / W = b ↔ b * W ≤ x ∧ x < b * W + W := by
  have d1 := Nat.div_add_mod x W
  have d2 := Nat.mod_lt x hW
  constructor
  · intro h
    rw [h, Nat.mul_comm] at d1
    omega
  · intro h
    have e2 : ∀ j, j < W → (b * W + j) / W = b := fun j hj => by rw [Nat.mul_comm, Nat.mul_add_div hW, Nat.div_eq_of_lt hj, Nat.add_zero]
    have := e2 (x - b * W) (by omega)
    rw [show b * W + (x - b * W) = x by omega] at this
    exact this
theorem l_streamed {B T S C W Ls na hb b : Nat} {D D2 kv : Nat → Nat → Int64} {Ak : Nat → Nat → Nat} {nk : Nat → Int64} {K : Nat → Nat → Int64} {dd : Nat → Bool} {A : Nat → Nat → Nat} {nm : Nat → Int64} {ux um vx vm w : q_St} {f : Nat → Nat} {ct : Nat → Nat → Int64} (g : Geo B T S C W Ls) (hna : na = 80 + (Ls + 511) / 512) (t : Tn B T S C W Ls na hb D kv Ak nk K dd A nm ux um) (hbW : b * W + W ≤ Ls) (hbe : ∀ x, x / W = b → A 17 x = 0 ∧ Ak 17 x = 0) (hf : ∀ i, f i < 256)
    (v : VV B T S C W Ls hb none D2 vx vm) (hD2 : ∀ x j, D2 x j = if x / W = b then ct x j else D x j) (h7 : q_i vx 7 = q_i ux 7) (fx : Fr [7, 8, 10, 11, 12, 15, 20] [0, 1] [0, 1] ux vx) (fm : Fr [9, 10, 12, 14, 18, 24] [0, 4] [] um vm) (fw : Fr [] [18, 32] [] vm w) (rm : RM Ls (wrA A (b * W) 0 (64 * W) f) nm (q_a w) (q_j w 0)) (rk : RM Ls (wrA Ak (b * W) 0 (64 * W) f) nk (fun k => q_a w (k + 14)) (q_j w 1)) :
    Tn B T S C W Ls na hb D2 kv (wrA Ak (b * W) 0 (64 * W) f) nk (fun x j => if x / W = b then ct x j else K x j) dd (wrA A (b * W) 0 (64 * W) f) nm vx w := by
  have hl := g.l
  have hw := g.w
  obtain ⟨al, h71, dh, xs, ms, h80, rm0, tw, rx, nb⟩ := t
  obtain ⟨al1, al2, al3, al4, al5, al6, al7, al8⟩ := al
  have ib : ∀ x, x / W = b ↔ b * W ≤ x ∧ x < b * W + W := fun x => in_bnd (by omega)
  have lowb : na + 64 ≤ b * W := by
    rcases Nat.lt_or_ge (b * W) (na + 64) with q | q
    · have := tw.2.2.1.2.2.2 _ q
      rw [(hbe _ ((ib _).mpr (by omega))).1] at this
      omega
    · exact q
  have noA : ∀ m r, m < 64 → tl A W m r ≠ 0 → tl A W m r < b * W ∨ b * W + W ≤ tl A W m r := by
    intro m r hm ht
    have := (tw.2.2.1.2.1 m r hm ht).2.2
    rcases Nat.lt_or_ge (tl A W m r) (b * W) with q | q
    · exact Or.inl q
    · rcases Nat.lt_or_ge (tl A W m r) (b * W + W) with q2 | q2
      · rw [(hbe _ ((ib _).mpr ⟨q, q2⟩)).1] at this; omega
      · exact Or.inr q2
  have noK : ∀ m r, m < 64 → tl Ak W m r ≠ 0 → tl Ak W m r < b * W ∨ b * W + W ≤ tl Ak W m r := by
    intro m r hm ht
    have := (al4.2.2.1.2.1 m r hm ht).2.2
    rcases Nat.lt_or_ge (tl Ak W m r) (b * W) with q | q
    · exact Or.inl q
    · rcases Nat.lt_or_ge (tl Ak W m r) (b * W + W) with q2 | q2
      · rw [(hbe _ ((ib _).mpr ⟨q, q2⟩)).2] at this; omega
      · exact Or.inr q2
  have r31 : ∀ x, x < Ls → q_a um 31 x = nI (Ak 17 x) := fun x hx => al3.2.2.2.2.2.2.1 x hx
  have a31 : q_a w 31 = q_a um 31 := (fw.2.1 31 (by decide)).trans (fm.2.1 31 (by decide))
  have a34 : q_a w 34 = q_a um 34 := (fw.2.1 34 (by decide)).trans (fm.2.1 34 (by decide))
  have vw : VV B T S C W Ls hb none D2 vx w := VV_fr v (fun _ _ _ _ _ _ => rfl) (fun _ _ => rfl) rfl (fun k q => fw.1 k (by simp)) (fun k q => fw.2.1 k (by simp only [List.mem_cons, List.not_mem_nil, or_false]; omega))
  have m25 : q_i w 25 = q_i um 25 := (fw.1 25 (by decide)).trans (fm.1 25 (by decide))
  have a33 : q_a w 33 = q_a um 33 := (fw.2.1 33 (by decide)).trans (fm.2.1 33 (by decide))
  have nkept : ∀ x, x < Ls → (x < 80 ∨ ¬ q_a um 31 x = 0) → ¬ x / W = b := by
    intro x hx h z
    rcases h with h | h
    · have := (ib x).mp z; omega
    · rw [r31 x hx, (hbe x z).2] at h
      exact h rfl
  refine ⟨⟨vw, ?_, rk, wr_TW al4 hf, ?_, fun b' z => (by cases z), ?_, ?_⟩, h7.trans h71, ?_, ⟨vw, ?_, ?_, ?_⟩, ⟨?_, ?_⟩, ?_, rm, wr_TW tw hf, ?_, ?_⟩
  · refine DK_cg hl.1 al2 (fx.1 24 (by decide)) ((fw.1 26 (by decide)).trans (fm.1 26 (by decide))) a31 a34 (fun x hx h j hj => ?_)
    rw [hD2, if_neg (nkept x hx h)]
  · exact wr_RX (by omega) hl.2 hna al5 (fun _ _ _ => rfl) noK
  · exact tpR_fr al7 (fx.1 32 (by decide)) ((fw.1 27 (by decide)).trans (fm.1 27 (by decide))) (fx.2.1 8 (by decide)) ((fw.2.1 35 (by decide)).trans (fm.2.1 35 (by decide)))
  · exact whR_fr al8 (fx.1 0 (by decide)) ((fw.1 28 (by decide)).trans (fm.1 28 (by decide)))
  · intro x x1 x2 x3 j hj
    rw [a31] at x3
    rw [hD2, if_neg (nkept x x2 (Or.inr x3))]
    exact dh x x1 x2 x3 j hj
  · intro x hx
    rw [fx.2.1 5 (by decide)]
    exact xs.2.1 x hx
  · rw [fx.1 22 (by decide)]
    exact xs.2.2.1
  · intro x j hx hj
    have old := xs.2.2.2 x j hx hj
    rw [fx.2.2 2 (by decide), hD2]
    by_cases c : x / W = b
    · have hd : ¬ dd x = true := fun z => by
        have := (h80 x hx z).2
        rw [(hbe x c).1] at this
        omega
      show _ = if x / W = b then ct x j else K x j
      rw [if_neg hd, if_pos c, if_pos c]
    · show _ = if x / W = b then ct x j else K x j
      rw [if_neg c, if_neg c]
      exact old
  · intro x hx
    rw [a33]
    exact ms.1 x hx
  · rw [m25]
    exact ms.2
  · intro x hx hd
    rw [wrA_k (by decide)]
    exact h80 x hx hd
  · refine wr_RX (by omega) hl.2 hna rx (fun y j hy => ?_) noA
    show (if y / W = b then ct y j else K y j) = K y j
    rw [if_neg (fun z => by have := (ib y).mp z; omega)]
  · intro m r hm q ht hd j hj
    have et : tl (wrA A (b * W) 0 (64 * W) f) W = tl A W := tl_sc (wrA_k (by decide)) (wrA_k (by decide)) (wrA_k (by decide)) (wrA_k (by decide)) (wrA_k (by decide))
    rw [et] at ht hd ⊢
    rw [wrA_k (show (5 : Nat) ≠ 18 by decide)] at q
    have := noA m r hm ht
    rw [wrA_18, wrA_18, if_neg (by omega), if_neg (by omega)]
    exact nb m r hm q ht hd j hj
