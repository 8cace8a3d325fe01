/-! ===== what each function may change, by program ===== -/
def Fr (SI SA SJ : List Nat) (u v : q_St) : Prop := (∀ k, k ∉ SI → q_i v k = q_i u k) ∧ (∀ k, k ∉ SA → q_a v k = q_a u k) ∧ (∀ k, k ∉ SJ → q_j v k = q_j u k)
theorem Fr.rf (SI SA SJ : List Nat) (u : q_St) : Fr SI SA SJ u u := ⟨fun _ _ => rfl, fun _ _ => rfl, fun _ _ => rfl⟩
theorem Fr.trans {SI SA SJ : List Nat} {u v w : q_St} (h1 : Fr SI SA SJ u v) (h2 : Fr SI SA SJ v w) : Fr SI SA SJ u w := ⟨fun k h => (h2.1 k h).trans (h1.1 k h), fun k h => (h2.2.1 k h).trans (h1.2.1 k h), fun k h => (h2.2.2 k h).trans (h1.2.2 k h)⟩
theorem Fr.mono {SI SA SJ TI TA TJ : List Nat} {u v : q_St} (h : Fr SI SA SJ u v) (hi : ∀ k ∈ SI, k ∈ TI) (ha : ∀ k ∈ SA, k ∈ TA) (hj : ∀ k ∈ SJ, k ∈ TJ) : Fr TI TA TJ u v := ⟨fun k q => h.1 k (fun z => q (hi k z)), fun k q => h.2.1 k (fun z => q (ha k z)), fun k q => h.2.2 k (fun z => q (hj k z))⟩
theorem Fr.app {SI SA SJ TI TA TJ : List Nat} {u v w : q_St} (h1 : Fr TI TA TJ u v) (h2 : Fr SI SA SJ v w) (hi : ∀ k ∈ SI, k ∈ TI) (ha : ∀ k ∈ SA, k ∈ TA) (hj : ∀ k ∈ SJ, k ∈ TJ) : Fr TI TA TJ u w := h1.trans (h2.mono hi ha hj)
theorem fr_nm {α β : Type} {x : α} {K : α → Option β} {z : β} (h : q_nm x K = some z) : ∃ v, K v = some z := ⟨x, h⟩
theorem fr_rd {α β : Type} {n : Nat} {f : Nat → α} {i : Int32} {K : α → Option β} {z : β} (h : q_rd n f i K = some z) : ∃ v, K v = some z := ⟨_, (q_rd_some h).2⟩
theorem fr_if {β : Type} {c : Prop} {d : Decidable c} {A B : Option β} {z : β} (h : (if c then A else B) = some z) : A = some z ∨ B = some z := by
  by_cases hc : c
  · rw [if_pos hc] at h; exact Or.inl h
  · rw [if_neg hc] at h; exact Or.inr h
theorem fr_si {β : Type} {SI SA SJ : List Nat} {u0 u : q_St} {n : Nat} {v : Int32} {K : q_St → Option β} {z : β} (hfr : Fr SI SA SJ u0 u) (h : q_nm (q_si u n v) K = some z) (hn : n ∈ SI) : ∃ u1, Fr SI SA SJ u0 u1 ∧ K u1 = some z :=
  ⟨q_si u n v, hfr.trans ⟨fun k hk => if_neg (fun e => hk (by rw [e]; exact hn)), fun _ _ => rfl, fun _ _ => rfl⟩, h⟩
theorem fr_wa {β : Type} {SI SA SJ : List Nat} {u0 u : q_St} {n m : Nat} {i : Int32} {f : Nat → Int32} {K : q_St → Option β} {z : β} (hfr : Fr SI SA SJ u0 u) (h : q_wa m i (q_sa u n f) K = some z) (hn : n ∈ SA) : ∃ u1, Fr SI SA SJ u0 u1 ∧ K u1 = some z :=
  ⟨q_sa u n f, hfr.trans ⟨fun _ _ => rfl, fun k hk => if_neg (fun e => hk (by rw [e]; exact hn)), fun _ _ => rfl⟩, (q_wa_some h).2⟩
theorem fr_wj {β : Type} {SI SA SJ : List Nat} {u0 u : q_St} {n m : Nat} {i : Int32} {f : Nat → Int64} {K : q_St → Option β} {z : β} (hfr : Fr SI SA SJ u0 u) (h : q_wa m i (q_sj u n f) K = some z) (hn : n ∈ SJ) : ∃ u1, Fr SI SA SJ u0 u1 ∧ K u1 = some z :=
  ⟨q_sj u n f, hfr.trans ⟨fun _ _ => rfl, fun _ _ => rfl, fun k hk => if_neg (fun e => hk (by rw [e]; exact hn))⟩, (q_wa_some h).2⟩
theorem fr_cp {β : Type} {SI SA SJ : List Nat} {u0 u : q_St} {n n0 n1 : Nat} {sp dp m : Int32} {f : Nat → Int64} {K : q_St → Option β} {z : β} (hfr : Fr SI SA SJ u0 u) (h : q_cp n0 n1 sp dp m (q_sj u n f) K = some z) (hn : n ∈ SJ) : ∃ u1, Fr SI SA SJ u0 u1 ∧ K u1 = some z :=
  ⟨q_sj u n f, hfr.trans ⟨fun _ _ => rfl, fun _ _ => rfl, fun k hk => if_neg (fun e => hk (by rw [e]; exact hn))⟩, (q_cp_some h).2⟩

abbrev wi_X7_append_8 : List Nat := [32]
abbrev wa_X7_append_8 : List Nat := [8]
abbrev wj_X7_append_8 : List Nat := []
set_option maxHeartbeats 4000000 in
set_option maxRecDepth 100000 in
theorem fr_X7_append_8 {L : Nat → Nat} {N : Nat} {o1 : Int32} {u0 σ0 : q_St} {r0 : Unit} (hF : fX7_append_8 L N o1 u0 = some (r0, σ0)) : Fr wi_X7_append_8 wa_X7_append_8 wj_X7_append_8 u0 σ0 := by
  have hB45 : ∀ (ih3 : Int32 → Int32 → q_St → Option (Unit × q_St)) (hi3 : ∀ (x1 : Int32) (x2 : Int32) (u : q_St), Fr wi_X7_append_8 wa_X7_append_8 wj_X7_append_8 u0 u → ih3 x1 x2 u = some (r0, σ0) → Fr wi_X7_append_8 wa_X7_append_8 wj_X7_append_8 u0 σ0), ∀ (x1 : Int32) (x2 : Int32) (u : q_St), Fr wi_X7_append_8 wa_X7_append_8 wj_X7_append_8 u0 u → fX7_append_8_b45 L N ih3 x1 x2 u = some (r0, σ0) → Fr wi_X7_append_8 wa_X7_append_8 wj_X7_append_8 u0 σ0 := by
    intro ih3 hi3 x1 x2 u hfr hF
    unfold fX7_append_8_b45 at hF
    obtain ⟨v1, hF⟩ := fr_nm hF
    exact hi3 x1 v1 u hfr hF
  have hB3 : ∀ (n : Nat) (x1 : Int32) (x2 : Int32) (u : q_St), Fr wi_X7_append_8 wa_X7_append_8 wj_X7_append_8 u0 u → q_lp (fX7_append_8_b3 L N) (fun _ _ _ => none) n x1 x2 u = some (r0, σ0) → Fr wi_X7_append_8 wa_X7_append_8 wj_X7_append_8 u0 σ0 := by
    intro n
    induction n with
    | zero => intro x1 x2 u hfr hF; exact absurd (show (none : Option (Unit × q_St)) = some _ from hF) (fun h => nomatch h)
    | succ n hi3 =>
      intro x1 x2 u hfr hF
      obtain ⟨ih3, hih⟩ : ∃ q, q = q_lp (fX7_append_8_b3 L N) (fun _ _ _ => none) n := ⟨_, rfl⟩
      rw [← hih] at hi3
      have hF : fX7_append_8_b3 L N (q_lp (fX7_append_8_b3 L N) (fun _ _ _ => none) n) x1 x2 u = some (r0, σ0) := hF
      rw [← hih] at hF
      clear hih
      unfold fX7_append_8_b3 at hF
      rcases fr_if hF with hF | hF
      · cases hF; exact hfr
      · rcases fr_if hF with hF | hF
        · exact hB45 ih3 hi3 x1 x2 u hfr hF
        · obtain ⟨u2, hfr, hF⟩ := fr_wa hfr hF (by decide)
          obtain ⟨u3, hfr, hF⟩ := fr_si hfr hF (by decide)
          exact hB45 ih3 hi3 x1 x2 u3 hfr hF
  unfold fX7_append_8 at hF
  have hfr := Fr.rf wi_X7_append_8 wa_X7_append_8 wj_X7_append_8 u0
  exact hB3 N o1 24 u0 hfr hF
abbrev wi_X10_feed : List Nat := [32]
abbrev wa_X10_feed : List Nat := [8]
abbrev wj_X10_feed : List Nat := []
set_option maxHeartbeats 4000000 in
set_option maxRecDepth 100000 in
theorem fr_X10_feed {L : Nat → Nat} {N : Nat} {o1 : Int32} {o2 : Int32} {o3 : Int32} {o4 : Int32} {o5 : Int32} {u0 σ0 : q_St} {r0 : Int32} (hF : fX10_feed L N o1 o2 o3 o4 o5 u0 = some (r0, σ0)) : Fr wi_X10_feed wa_X10_feed wj_X10_feed u0 σ0 := by
  unfold fX10_feed at hF
  have hfr := Fr.rf wi_X10_feed wa_X10_feed wj_X10_feed u0
  rcases fr_if hF with hF | hF
  · obtain ⟨r1, u2, hc3, hF⟩ := q_bnd_some hF
    have hfr := hfr.app (fr_X7_append_8 hc3) (by decide) (by decide) (by decide)
    obtain ⟨r4, u5, hc6, hF⟩ := q_bnd_some hF
    have hfr := hfr.app (fr_X7_append_8 hc6) (by decide) (by decide) (by decide)
    obtain ⟨r7, u8, hc9, hF⟩ := q_bnd_some hF
    have hfr := hfr.app (fr_X7_append_8 hc9) (by decide) (by decide) (by decide)
    obtain ⟨r10, u11, hc12, hF⟩ := q_bnd_some hF
    have hfr := hfr.app (fr_X7_append_8 hc12) (by decide) (by decide) (by decide)
    obtain ⟨r13, u14, hc15, hF⟩ := q_bnd_some hF
    have hfr := hfr.app (fr_X7_append_8 hc15) (by decide) (by decide) (by decide)
    cases hF; exact hfr
  · cases hF; exact hfr
abbrev wi_X10_end : List Nat := [32]
abbrev wa_X10_end : List Nat := []
abbrev wj_X10_end : List Nat := []
set_option maxHeartbeats 4000000 in
set_option maxRecDepth 100000 in
theorem fr_X10_end {L : Nat → Nat} {N : Nat} {o1 : Int32} {u0 σ0 : q_St} {r0 : Int32} (hF : fX10_end L N o1 u0 = some (r0, σ0)) : Fr wi_X10_end wa_X10_end wj_X10_end u0 σ0 := by
  unfold fX10_end at hF
  have hfr := Fr.rf wi_X10_end wa_X10_end wj_X10_end u0
  rcases fr_if hF with hF | hF
  · cases hF; exact hfr
  · rcases fr_if hF with hF | hF
    · obtain ⟨u1, hfr, hF⟩ := fr_si hfr hF (by decide)
      cases hF; exact hfr
    · cases hF; exact hfr
abbrev wi_X10_as : List Nat := [0]
abbrev wa_X10_as : List Nat := []
abbrev wj_X10_as : List Nat := []
set_option maxHeartbeats 4000000 in
set_option maxRecDepth 100000 in
theorem fr_X10_as {L : Nat → Nat} {N : Nat} {o1 : Int32} {u0 σ0 : q_St} {r0 : Int32} (hF : fX10_as L N o1 u0 = some (r0, σ0)) : Fr wi_X10_as wa_X10_as wj_X10_as u0 σ0 := by
  unfold fX10_as at hF
  have hfr := Fr.rf wi_X10_as wa_X10_as wj_X10_as u0
  rcases fr_if hF with hF | hF
  · cases hF; exact hfr
  · rcases fr_if hF with hF | hF
    · cases hF; exact hfr
    · rcases fr_if hF with hF | hF
      · obtain ⟨v1, hF⟩ := fr_nm hF
        obtain ⟨u2, hfr, hF⟩ := fr_si hfr hF (by decide)
        cases hF; exact hfr
      · cases hF; exact hfr
abbrev wi_J7_fillJ_22 : List Nat := []
abbrev wa_J7_fillJ_22 : List Nat := []
abbrev wj_J7_fillJ_22 : List Nat := [3]
set_option maxHeartbeats 4000000 in
set_option maxRecDepth 100000 in
theorem fr_J7_fillJ_22 {L : Nat → Nat} {N : Nat} {o1 : Int64} {u0 σ0 : q_St} {r0 : Unit} (hF : fJ7_fillJ_22 L N o1 u0 = some (r0, σ0)) : Fr wi_J7_fillJ_22 wa_J7_fillJ_22 wj_J7_fillJ_22 u0 σ0 := by
  have hB6 : ∀ (n : Nat) (x1 : Int64) (x3 : Int32) (x4 : Int32) (u : q_St), Fr wi_J7_fillJ_22 wa_J7_fillJ_22 wj_J7_fillJ_22 u0 u → q_lp (fJ7_fillJ_22_b6 L N) (fun _ _ _ _ => none) n x1 x3 x4 u = some (r0, σ0) → Fr wi_J7_fillJ_22 wa_J7_fillJ_22 wj_J7_fillJ_22 u0 σ0 := by
    intro n
    induction n with
    | zero => intro x1 x3 x4 u hfr hF; exact absurd (show (none : Option (Unit × q_St)) = some _ from hF) (fun h => nomatch h)
    | succ n hi6 =>
      intro x1 x3 x4 u hfr hF
      obtain ⟨ih6, hih⟩ : ∃ q, q = q_lp (fJ7_fillJ_22_b6 L N) (fun _ _ _ _ => none) n := ⟨_, rfl⟩
      rw [← hih] at hi6
      have hF : fJ7_fillJ_22_b6 L N (q_lp (fJ7_fillJ_22_b6 L N) (fun _ _ _ _ => none) n) x1 x3 x4 u = some (r0, σ0) := hF
      rw [← hih] at hF
      clear hih
      unfold fJ7_fillJ_22_b6 at hF
      rcases fr_if hF with hF | hF
      · cases hF; exact hfr
      · obtain ⟨u2, hfr, hF⟩ := fr_wj hfr hF (by decide)
        obtain ⟨v3, hF⟩ := fr_nm hF
        exact hi6 x1 v3 x4 u2 hfr hF
  unfold fJ7_fillJ_22 at hF
  have hfr := Fr.rf wi_J7_fillJ_22 wa_J7_fillJ_22 wj_J7_fillJ_22 u0
  obtain ⟨v1, hF⟩ := fr_nm hF
  exact hB6 N o1 0 v1 u0 hfr hF
abbrev wi_X8_freePlaces : List Nat := []
abbrev wa_X8_freePlaces : List Nat := []
abbrev wj_X8_freePlaces : List Nat := []
set_option maxHeartbeats 4000000 in
set_option maxRecDepth 100000 in
theorem fr_X8_freePlaces {L : Nat → Nat} {N : Nat}  {u0 σ0 : q_St} {r0 : Int32} (hF : fX8_freePlaces L N u0 = some (r0, σ0)) : Fr wi_X8_freePlaces wa_X8_freePlaces wj_X8_freePlaces u0 σ0 := by
  unfold fX8_freePlaces at hF
  have hfr := Fr.rf wi_X8_freePlaces wa_X8_freePlaces wj_X8_freePlaces u0
  cases hF; exact hfr
abbrev wi_X2_spend : List Nat := [7, 8]
abbrev wa_X2_spend : List Nat := []
abbrev wj_X2_spend : List Nat := []
set_option maxHeartbeats 4000000 in
set_option maxRecDepth 100000 in
theorem fr_X2_spend {L : Nat → Nat} {N : Nat}  {u0 σ0 : q_St} {r0 : Int32} (hF : fX2_spend L N u0 = some (r0, σ0)) : Fr wi_X2_spend wa_X2_spend wj_X2_spend u0 σ0 := by
  unfold fX2_spend at hF
  have hfr := Fr.rf wi_X2_spend wa_X2_spend wj_X2_spend u0
  rcases fr_if hF with hF | hF
  · obtain ⟨u2, hfr, hF⟩ := fr_si hfr hF (by decide)
    obtain ⟨u3, hfr, hF⟩ := fr_si hfr hF (by decide)
    cases hF; exact hfr
  · rcases fr_if hF with hF | hF
    · cases hF; exact hfr
    · obtain ⟨u1, hfr, hF⟩ := fr_si hfr hF (by decide)
      cases hF; exact hfr
abbrev wi_X2_writeEntry_22 : List Nat := [7, 8, 9]
abbrev wa_X2_writeEntry_22 : List Nat := []
abbrev wj_X2_writeEntry_22 : List Nat := [0]
set_option maxHeartbeats 4000000 in
set_option maxRecDepth 100000 in
theorem fr_X2_writeEntry_22 {L : Nat → Nat} {N : Nat} {o1 : Int32} {o3 : Int32} {u0 σ0 : q_St} {r0 : Int32} (hF : fX2_writeEntry_22 L N o1 o3 u0 = some (r0, σ0)) : Fr wi_X2_writeEntry_22 wa_X2_writeEntry_22 wj_X2_writeEntry_22 u0 σ0 := by
  unfold fX2_writeEntry_22 at hF
  have hfr := Fr.rf wi_X2_writeEntry_22 wa_X2_writeEntry_22 wj_X2_writeEntry_22 u0
  rcases fr_if hF with hF | hF
  · cases hF; exact hfr
  · rcases fr_if hF with hF | hF
    · cases hF; exact hfr
    · rcases fr_if hF with hF | hF
      · cases hF; exact hfr
      · rcases fr_if hF with hF | hF
        · cases hF; exact hfr
        · obtain ⟨r1, u2, hc3, hF⟩ := q_bnd_some hF
          have hfr := hfr.app (fr_X2_spend hc3) (by decide) (by decide) (by decide)
          rcases fr_if hF with hF | hF
          · cases hF; exact hfr
          · obtain ⟨u4, hfr, hF⟩ := fr_cp hfr hF (by decide)
            obtain ⟨u5, hfr, hF⟩ := fr_si hfr hF (by decide)
            cases hF; exact hfr
abbrev wi_X8_isLive : List Nat := []
abbrev wa_X8_isLive : List Nat := []
abbrev wj_X8_isLive : List Nat := []
set_option maxHeartbeats 4000000 in
set_option maxRecDepth 100000 in
theorem fr_X8_isLive {L : Nat → Nat} {N : Nat} {o1 : Int32} {u0 σ0 : q_St} {r0 : Int32} (hF : fX8_isLive L N o1 u0 = some (r0, σ0)) : Fr wi_X8_isLive wa_X8_isLive wj_X8_isLive u0 σ0 := by
  have hB33 : ∀ (x1 : Int32) (y0 : Int32) (u : q_St), Fr wi_X8_isLive wa_X8_isLive wj_X8_isLive u0 u → fX8_isLive_b33 L N x1 y0 u = some (r0, σ0) → Fr wi_X8_isLive wa_X8_isLive wj_X8_isLive u0 σ0 := by
    intro x1 y0 u hfr hF
    unfold fX8_isLive_b33 at hF
    have hF := (q_dv_some hF).2
    obtain ⟨v2, hF⟩ := fr_nm hF
    rcases fr_if hF with hF | hF
    · cases hF; exact hfr
    · rcases fr_if hF with hF | hF
      · cases hF; exact hfr
      · rcases fr_if hF with hF | hF
        · cases hF; exact hfr
        · obtain ⟨v3, hF⟩ := fr_rd hF
          rcases fr_if hF with hF | hF
          · obtain ⟨v4, hF⟩ := fr_rd hF
            rcases fr_if hF with hF | hF
            · cases hF; exact hfr
            · cases hF; exact hfr
          · cases hF; exact hfr
  have hB32 : ∀ (x1 : Int32) (u : q_St), Fr wi_X8_isLive wa_X8_isLive wj_X8_isLive u0 u → fX8_isLive_b32 L N x1 u = some (r0, σ0) → Fr wi_X8_isLive wa_X8_isLive wj_X8_isLive u0 σ0 := by
    intro x1 u hfr hF
    unfold fX8_isLive_b32 at hF
    exact hB33 x1 (-1) u hfr hF
  unfold fX8_isLive at hF
  have hfr := Fr.rf wi_X8_isLive wa_X8_isLive wj_X8_isLive u0
  have hF := (q_dv_some hF).2
  obtain ⟨v1, hF⟩ := fr_nm hF
  rcases fr_if hF with hF | hF
  · exact hB32 o1 u0 hfr hF
  · rcases fr_if hF with hF | hF
    · exact hB32 o1 u0 hfr hF
    · obtain ⟨v5, hF⟩ := fr_rd hF
      exact hB33 o1 v5 u0 hfr hF
abbrev wi_X8_oldest : List Nat := []
abbrev wa_X8_oldest : List Nat := []
abbrev wj_X8_oldest : List Nat := []
set_option maxHeartbeats 4000000 in
set_option maxRecDepth 100000 in
theorem fr_X8_oldest {L : Nat → Nat} {N : Nat}  {u0 σ0 : q_St} {r0 : Int32} (hF : fX8_oldest L N u0 = some (r0, σ0)) : Fr wi_X8_oldest wa_X8_oldest wj_X8_oldest u0 σ0 := by
  have hB5 : ∀ (n : Nat) (x1 : Int32) (u : q_St), Fr wi_X8_oldest wa_X8_oldest wj_X8_oldest u0 u → q_lp (fX8_oldest_b5 L N) (fun _ _ => none) n x1 u = some (r0, σ0) → Fr wi_X8_oldest wa_X8_oldest wj_X8_oldest u0 σ0 := by
    intro n
    induction n with
    | zero => intro x1 u hfr hF; exact absurd (show (none : Option (Int32 × q_St)) = some _ from hF) (fun h => nomatch h)
    | succ n hi5 =>
      intro x1 u hfr hF
      obtain ⟨ih5, hih⟩ : ∃ q, q = q_lp (fX8_oldest_b5 L N) (fun _ _ => none) n := ⟨_, rfl⟩
      rw [← hih] at hi5
      have hF : fX8_oldest_b5 L N (q_lp (fX8_oldest_b5 L N) (fun _ _ => none) n) x1 u = some (r0, σ0) := hF
      rw [← hih] at hF
      clear hih
      unfold fX8_oldest_b5 at hF
      rcases fr_if hF with hF | hF
      · cases hF; exact hfr
      · obtain ⟨r2, u3, hc4, hF⟩ := q_bnd_some hF
        have hfr := hfr.app (fr_X8_isLive hc4) (by decide) (by decide) (by decide)
        rcases fr_if hF with hF | hF
        · obtain ⟨v5, hF⟩ := fr_nm hF
          exact hi5 v5 u3 hfr hF
        · cases hF; exact hfr
  unfold fX8_oldest at hF
  have hfr := Fr.rf wi_X8_oldest wa_X8_oldest wj_X8_oldest u0
  obtain ⟨v1, hF⟩ := fr_nm hF
  exact hB5 N v1 u0 hfr hF
abbrev wi_X8_nextKind : List Nat := []
abbrev wa_X8_nextKind : List Nat := []
abbrev wj_X8_nextKind : List Nat := []
set_option maxHeartbeats 4000000 in
set_option maxRecDepth 100000 in
theorem fr_X8_nextKind {L : Nat → Nat} {N : Nat}  {u0 σ0 : q_St} {r0 : Int32} (hF : fX8_nextKind L N u0 = some (r0, σ0)) : Fr wi_X8_nextKind wa_X8_nextKind wj_X8_nextKind u0 σ0 := by
  unfold fX8_nextKind at hF
  have hfr := Fr.rf wi_X8_nextKind wa_X8_nextKind wj_X8_nextKind u0
  rcases fr_if hF with hF | hF
  · obtain ⟨r1, u2, hc3, hF⟩ := q_bnd_some hF
    have hfr := hfr.app (fr_X8_oldest hc3) (by decide) (by decide) (by decide)
    rcases fr_if hF with hF | hF
    · rcases fr_if hF with hF | hF
      · cases hF; exact hfr
      · cases hF; exact hfr
    · cases hF; exact hfr
  · rcases fr_if hF with hF | hF
    · rcases fr_if hF with hF | hF
      · cases hF; exact hfr
      · cases hF; exact hfr
    · rcases fr_if hF with hF | hF
      · cases hF; exact hfr
      · cases hF; exact hfr
abbrev wi_X2_writeRecord : List Nat := [7, 8, 12]
abbrev wa_X2_writeRecord : List Nat := []
abbrev wj_X2_writeRecord : List Nat := []
set_option maxHeartbeats 4000000 in
set_option maxRecDepth 100000 in
theorem fr_X2_writeRecord {L : Nat → Nat} {N : Nat}  {u0 σ0 : q_St} {r0 : Int32} (hF : fX2_writeRecord L N u0 = some (r0, σ0)) : Fr wi_X2_writeRecord wa_X2_writeRecord wj_X2_writeRecord u0 σ0 := by
  unfold fX2_writeRecord at hF
  have hfr := Fr.rf wi_X2_writeRecord wa_X2_writeRecord wj_X2_writeRecord u0
  obtain ⟨r1, u2, hc3, hF⟩ := q_bnd_some hF
  have hfr := hfr.app (fr_X2_spend hc3) (by decide) (by decide) (by decide)
  rcases fr_if hF with hF | hF
  · have hF := (q_rz_some hF).2
    cases hF; exact hfr
  · obtain ⟨u4, hfr, hF⟩ := fr_si hfr hF (by decide)
    have hF := (q_rz_some hF).2
    cases hF; exact hfr
abbrev wi_X8_trim : List Nat := [7, 8, 12, 15]
abbrev wa_X8_trim : List Nat := []
abbrev wj_X8_trim : List Nat := []
set_option maxHeartbeats 4000000 in
set_option maxRecDepth 100000 in
theorem fr_X8_trim {L : Nat → Nat} {N : Nat}  {u0 σ0 : q_St} {r0 : Int32} (hF : fX8_trim L N u0 = some (r0, σ0)) : Fr wi_X8_trim wa_X8_trim wj_X8_trim u0 σ0 := by
  unfold fX8_trim at hF
  have hfr := Fr.rf wi_X8_trim wa_X8_trim wj_X8_trim u0
  obtain ⟨r1, u2, hc3, hF⟩ := q_bnd_some hF
  have hfr := hfr.app (fr_X2_writeRecord hc3) (by decide) (by decide) (by decide)
  rcases fr_if hF with hF | hF
  · cases hF; exact hfr
  · obtain ⟨r4, u5, hc6, hF⟩ := q_bnd_some hF
    have hfr := hfr.app (fr_X8_oldest hc6) (by decide) (by decide) (by decide)
    obtain ⟨u7, hfr, hF⟩ := fr_si hfr hF (by decide)
    cases hF; exact hfr
abbrev wi_J7_fill_17 : List Nat := []
abbrev wa_J7_fill_17 : List Nat := [4]
abbrev wj_J7_fill_17 : List Nat := []
set_option maxHeartbeats 4000000 in
set_option maxRecDepth 100000 in
theorem fr_J7_fill_17 {L : Nat → Nat} {N : Nat} {o1 : Int32} {u0 σ0 : q_St} {r0 : Unit} (hF : fJ7_fill_17 L N o1 u0 = some (r0, σ0)) : Fr wi_J7_fill_17 wa_J7_fill_17 wj_J7_fill_17 u0 σ0 := by
  have hB5 : ∀ (n : Nat) (x1 : Int32) (x2 : Int32) (x3 : Int32) (u : q_St), Fr wi_J7_fill_17 wa_J7_fill_17 wj_J7_fill_17 u0 u → q_lp (fJ7_fill_17_b5 L N) (fun _ _ _ _ => none) n x1 x2 x3 u = some (r0, σ0) → Fr wi_J7_fill_17 wa_J7_fill_17 wj_J7_fill_17 u0 σ0 := by
    intro n
    induction n with
    | zero => intro x1 x2 x3 u hfr hF; exact absurd (show (none : Option (Unit × q_St)) = some _ from hF) (fun h => nomatch h)
    | succ n hi5 =>
      intro x1 x2 x3 u hfr hF
      obtain ⟨ih5, hih⟩ : ∃ q, q = q_lp (fJ7_fill_17_b5 L N) (fun _ _ _ _ => none) n := ⟨_, rfl⟩
      rw [← hih] at hi5
      have hF : fJ7_fill_17_b5 L N (q_lp (fJ7_fill_17_b5 L N) (fun _ _ _ _ => none) n) x1 x2 x3 u = some (r0, σ0) := hF
      rw [← hih] at hF
      clear hih
      unfold fJ7_fill_17_b5 at hF
      rcases fr_if hF with hF | hF
      · cases hF; exact hfr
      · obtain ⟨u2, hfr, hF⟩ := fr_wa hfr hF (by decide)
        obtain ⟨v3, hF⟩ := fr_nm hF
        exact hi5 x1 v3 x3 u2 hfr hF
  unfold fJ7_fill_17 at hF
  have hfr := Fr.rf wi_J7_fill_17 wa_J7_fill_17 wj_J7_fill_17 u0
  obtain ⟨v1, hF⟩ := fr_nm hF
  exact hB5 N o1 0 v1 u0 hfr hF
abbrev wi_X8_pick : List Nat := [7, 8, 12, 16, 17, 19]
abbrev wa_X8_pick : List Nat := [4]
abbrev wj_X8_pick : List Nat := []
set_option maxHeartbeats 4000000 in
set_option maxRecDepth 100000 in
theorem fr_X8_pick {L : Nat → Nat} {N : Nat}  {u0 σ0 : q_St} {r0 : Int32} (hF : fX8_pick L N u0 = some (r0, σ0)) : Fr wi_X8_pick wa_X8_pick wj_X8_pick u0 σ0 := by
  have hB142 : ∀ (ih116 : Int32 → Int32 → q_St → Option (Int32 × q_St)) (hi116 : ∀ (x1 : Int32) (x2 : Int32) (u : q_St), Fr wi_X8_pick wa_X8_pick wj_X8_pick u0 u → ih116 x1 x2 u = some (r0, σ0) → Fr wi_X8_pick wa_X8_pick wj_X8_pick u0 σ0), ∀ (x1 : Int32) (x2 : Int32) (u : q_St), Fr wi_X8_pick wa_X8_pick wj_X8_pick u0 u → fX8_pick_b142 L N ih116 x1 x2 u = some (r0, σ0) → Fr wi_X8_pick wa_X8_pick wj_X8_pick u0 σ0 := by
    intro ih116 hi116 x1 x2 u hfr hF
    unfold fX8_pick_b142 at hF
    obtain ⟨v13, hF⟩ := fr_nm hF
    exact hi116 x1 v13 u hfr hF
  have hB116 : ∀ (n : Nat) (x1 : Int32) (x2 : Int32) (u : q_St), Fr wi_X8_pick wa_X8_pick wj_X8_pick u0 u → q_lp (fX8_pick_b116 L N) (fun _ _ _ => none) n x1 x2 u = some (r0, σ0) → Fr wi_X8_pick wa_X8_pick wj_X8_pick u0 σ0 := by
    intro n
    induction n with
    | zero => intro x1 x2 u hfr hF; exact absurd (show (none : Option (Int32 × q_St)) = some _ from hF) (fun h => nomatch h)
    | succ n hi116 =>
      intro x1 x2 u hfr hF
      obtain ⟨ih116, hih⟩ : ∃ q, q = q_lp (fX8_pick_b116 L N) (fun _ _ _ => none) n := ⟨_, rfl⟩
      rw [← hih] at hi116
      have hF : fX8_pick_b116 L N (q_lp (fX8_pick_b116 L N) (fun _ _ _ => none) n) x1 x2 u = some (r0, σ0) := hF
      rw [← hih] at hF
      clear hih
      unfold fX8_pick_b116 at hF
      rcases fr_if hF with hF | hF
      · obtain ⟨u8, hfr, hF⟩ := fr_si hfr hF (by decide)
        obtain ⟨u9, hfr, hF⟩ := fr_si hfr hF (by decide)
        obtain ⟨u10, hfr, hF⟩ := fr_si hfr hF (by decide)
        cases hF; exact hfr
      · obtain ⟨v11, hF⟩ := fr_rd hF
        obtain ⟨v12, hF⟩ := fr_rd hF
        rcases fr_if hF with hF | hF
        · exact hB142 ih116 hi116 x1 x2 u hfr hF
        · exact hB142 ih116 hi116 x2 x2 u hfr hF
  have hB106 : ∀ (ih25 : Int32 → q_St → Option (Int32 × q_St)) (hi25 : ∀ (x1 : Int32) (u : q_St), Fr wi_X8_pick wa_X8_pick wj_X8_pick u0 u → ih25 x1 u = some (r0, σ0) → Fr wi_X8_pick wa_X8_pick wj_X8_pick u0 σ0), ∀ (x1 : Int32) (u : q_St), Fr wi_X8_pick wa_X8_pick wj_X8_pick u0 u → fX8_pick_b106 L N ih25 x1 u = some (r0, σ0) → Fr wi_X8_pick wa_X8_pick wj_X8_pick u0 σ0 := by
    intro ih25 hi25 x1 u hfr hF
    unfold fX8_pick_b106 at hF
    obtain ⟨v15, hF⟩ := fr_nm hF
    exact hi25 v15 u hfr hF
  have hB74 : ∀ (ih25 : Int32 → q_St → Option (Int32 × q_St)) (hi25 : ∀ (x1 : Int32) (u : q_St), Fr wi_X8_pick wa_X8_pick wj_X8_pick u0 u → ih25 x1 u = some (r0, σ0) → Fr wi_X8_pick wa_X8_pick wj_X8_pick u0 σ0), ∀ (x1 : Int32) (y0 : Int32) (u : q_St), Fr wi_X8_pick wa_X8_pick wj_X8_pick u0 u → fX8_pick_b74 L N ih25 x1 y0 u = some (r0, σ0) → Fr wi_X8_pick wa_X8_pick wj_X8_pick u0 σ0 := by
    intro ih25 hi25 x1 y0 u hfr hF
    unfold fX8_pick_b74 at hF
    rcases fr_if hF with hF | hF
    · exact hB106 ih25 hi25 x1 u hfr hF
    · rcases fr_if hF with hF | hF
      · exact hB106 ih25 hi25 x1 u hfr hF
      · obtain ⟨r16, u17, hc18, hF⟩ := q_bnd_some hF
        have hfr := hfr.app (fr_X8_isLive hc18) (by decide) (by decide) (by decide)
        rcases fr_if hF with hF | hF
        · exact hB106 ih25 hi25 x1 u17 hfr hF
        · obtain ⟨v19, hF⟩ := fr_rd hF
          obtain ⟨u20, hfr, hF⟩ := fr_wa hfr hF (by decide)
          exact hB106 ih25 hi25 x1 u20 hfr hF
  have hB73 : ∀ (ih25 : Int32 → q_St → Option (Int32 × q_St)) (hi25 : ∀ (x1 : Int32) (u : q_St), Fr wi_X8_pick wa_X8_pick wj_X8_pick u0 u → ih25 x1 u = some (r0, σ0) → Fr wi_X8_pick wa_X8_pick wj_X8_pick u0 σ0), ∀ (x1 : Int32) (u : q_St), Fr wi_X8_pick wa_X8_pick wj_X8_pick u0 u → fX8_pick_b73 L N ih25 x1 u = some (r0, σ0) → Fr wi_X8_pick wa_X8_pick wj_X8_pick u0 σ0 := by
    intro ih25 hi25 x1 u hfr hF
    unfold fX8_pick_b73 at hF
    exact hB74 ih25 hi25 x1 (-1) u hfr hF
  have hB25 : ∀ (n : Nat) (x1 : Int32) (u : q_St), Fr wi_X8_pick wa_X8_pick wj_X8_pick u0 u → q_lp (fX8_pick_b25 L N) (fun _ _ => none) n x1 u = some (r0, σ0) → Fr wi_X8_pick wa_X8_pick wj_X8_pick u0 σ0 := by
    intro n
    induction n with
    | zero => intro x1 u hfr hF; exact absurd (show (none : Option (Int32 × q_St)) = some _ from hF) (fun h => nomatch h)
    | succ n hi25 =>
      intro x1 u hfr hF
      obtain ⟨ih25, hih⟩ : ∃ q, q = q_lp (fX8_pick_b25 L N) (fun _ _ => none) n := ⟨_, rfl⟩
      rw [← hih] at hi25
      have hF : fX8_pick_b25 L N (q_lp (fX8_pick_b25 L N) (fun _ _ => none) n) x1 u = some (r0, σ0) := hF
      rw [← hih] at hF
      clear hih
      unfold fX8_pick_b25 at hF
      rcases fr_if hF with hF | hF
      · exact hB116 N 0 1 u hfr hF
      · have hF := (q_dv_some hF).2
        obtain ⟨v14, hF⟩ := fr_nm hF
        rcases fr_if hF with hF | hF
        · exact hB73 ih25 hi25 x1 u hfr hF
        · rcases fr_if hF with hF | hF
          · exact hB73 ih25 hi25 x1 u hfr hF
          · obtain ⟨v21, hF⟩ := fr_rd hF
            have hF := (q_dv_some hF).2
            exact hB74 ih25 hi25 x1 (v21 / (q_i u 4)) u hfr hF
  unfold fX8_pick at hF
  have hfr := Fr.rf wi_X8_pick wa_X8_pick wj_X8_pick u0
  obtain ⟨r1, u2, hc3, hF⟩ := q_bnd_some hF
  have hfr := hfr.app (fr_X2_writeRecord hc3) (by decide) (by decide) (by decide)
  rcases fr_if hF with hF | hF
  · cases hF; exact hfr
  · obtain ⟨r4, u5, hc6, hF⟩ := q_bnd_some hF
    have hfr := hfr.app (fr_J7_fill_17 hc6) (by decide) (by decide) (by decide)
    obtain ⟨v7, hF⟩ := fr_nm hF
    exact hB25 N v7 u5 hfr hF
abbrev wi_X8_spot : List Nat := [13]
abbrev wa_X8_spot : List Nat := []
abbrev wj_X8_spot : List Nat := []
set_option maxHeartbeats 4000000 in
set_option maxRecDepth 100000 in
theorem fr_X8_spot {L : Nat → Nat} {N : Nat} {o1 : Int32} {u0 σ0 : q_St} {r0 : Int32} (hF : fX8_spot L N o1 u0 = some (r0, σ0)) : Fr wi_X8_spot wa_X8_spot wj_X8_spot u0 σ0 := by
  have hB158 : ∀ (x4 : Int32) (u : q_St), Fr wi_X8_spot wa_X8_spot wj_X8_spot u0 u → fX8_spot_b158 L N x4 u = some (r0, σ0) → Fr wi_X8_spot wa_X8_spot wj_X8_spot u0 σ0 := by
    intro x4 u hfr hF
    unfold fX8_spot_b158 at hF
    cases hF; exact hfr
  have hB117 : ∀ (y0 : Int32) (u : q_St), Fr wi_X8_spot wa_X8_spot wj_X8_spot u0 u → fX8_spot_b117 L N y0 u = some (r0, σ0) → Fr wi_X8_spot wa_X8_spot wj_X8_spot u0 σ0 := by
    intro y0 u hfr hF
    unfold fX8_spot_b117 at hF
    rcases fr_if hF with hF | hF
    · exact hB158 y0 u hfr hF
    · obtain ⟨v3, hF⟩ := fr_rd hF
      rcases fr_if hF with hF | hF
      · exact hB158 y0 u hfr hF
      · obtain ⟨u4, hfr, hF⟩ := fr_si hfr hF (by decide)
        exact hB158 y0 u4 hfr hF
  have hB116 : ∀ (x1 : Int32) (u : q_St), Fr wi_X8_spot wa_X8_spot wj_X8_spot u0 u → fX8_spot_b116 L N x1 u = some (r0, σ0) → Fr wi_X8_spot wa_X8_spot wj_X8_spot u0 σ0 := by
    intro x1 u hfr hF
    unfold fX8_spot_b116 at hF
    exact hB117 x1 u hfr hF
  have hB81 : ∀ (x1 : Int32) (x2 : Int32) (u : q_St), Fr wi_X8_spot wa_X8_spot wj_X8_spot u0 u → fX8_spot_b81 L N x1 x2 u = some (r0, σ0) → Fr wi_X8_spot wa_X8_spot wj_X8_spot u0 σ0 := by
    intro x1 x2 u hfr hF
    unfold fX8_spot_b81 at hF
    rcases fr_if hF with hF | hF
    · exact hB116 x1 u hfr hF
    · rcases fr_if hF with hF | hF
      · have hF := (q_dv_some hF).2
        exact hB117 ((q_i u 5) + (x1 - x1 / (q_i u 4) * (q_i u 4))) u hfr hF
      · exact hB116 x1 u hfr hF
  unfold fX8_spot at hF
  have hfr := Fr.rf wi_X8_spot wa_X8_spot wj_X8_spot u0
  rcases fr_if hF with hF | hF
  · cases hF; exact hfr
  · rcases fr_if hF with hF | hF
    · have hF := (q_dv_some hF).2
      obtain ⟨v1, hF⟩ := fr_nm hF
      obtain ⟨v2, hF⟩ := fr_rd hF
      rcases fr_if hF with hF | hF
      · exact hB81 o1 v1 u0 hfr hF
      · rcases fr_if hF with hF | hF
        · exact hB81 o1 v1 u0 hfr hF
        · obtain ⟨v5, hF⟩ := fr_rd hF
          rcases fr_if hF with hF | hF
          · exact hB81 o1 v1 u0 hfr hF
          · have hF := (q_dv_some hF).2
            cases hF; exact hfr
    · cases hF; exact hfr
abbrev wi_X2_writeShingle_12 : List Nat := [7, 8, 10, 11]
abbrev wa_X2_writeShingle_12 : List Nat := [0]
abbrev wj_X2_writeShingle_12 : List Nat := [0]
set_option maxHeartbeats 4000000 in
set_option maxRecDepth 100000 in
theorem fr_X2_writeShingle_12 {L : Nat → Nat} {N : Nat} {o1 : Int32} {o3 : Int32} {u0 σ0 : q_St} {r0 : Int32} (hF : fX2_writeShingle_12 L N o1 o3 u0 = some (r0, σ0)) : Fr wi_X2_writeShingle_12 wa_X2_writeShingle_12 wj_X2_writeShingle_12 u0 σ0 := by
  have hB127 : ∀ (x1 : Int32) (x3 : Int32) (x7 : Int32) (y0 : Int32) (y1 : Int32) (u : q_St), Fr wi_X2_writeShingle_12 wa_X2_writeShingle_12 wj_X2_writeShingle_12 u0 u → fX2_writeShingle_12_b127 L N x1 x3 x7 y0 y1 u = some (r0, σ0) → Fr wi_X2_writeShingle_12 wa_X2_writeShingle_12 wj_X2_writeShingle_12 u0 σ0 := by
    intro x1 x3 x7 y0 y1 u hfr hF
    unfold fX2_writeShingle_12_b127 at hF
    obtain ⟨u7, hfr, hF⟩ := fr_wa hfr hF (by decide)
    rcases fr_if hF with hF | hF
    · cases hF; exact hfr
    · obtain ⟨u8, hfr, hF⟩ := fr_cp hfr hF (by decide)
      rcases fr_if hF with hF | hF
      · obtain ⟨u9, hfr, hF⟩ := fr_si hfr hF (by decide)
        cases hF; exact hfr
      · obtain ⟨u10, hfr, hF⟩ := fr_si hfr hF (by decide)
        cases hF; exact hfr
  have hB106 : ∀ (x1 : Int32) (x3 : Int32) (u : q_St), Fr wi_X2_writeShingle_12 wa_X2_writeShingle_12 wj_X2_writeShingle_12 u0 u → fX2_writeShingle_12_b106 L N x1 x3 u = some (r0, σ0) → Fr wi_X2_writeShingle_12 wa_X2_writeShingle_12 wj_X2_writeShingle_12 u0 σ0 := by
    intro x1 x3 u hfr hF
    unfold fX2_writeShingle_12_b106 at hF
    obtain ⟨r4, u5, hc6, hF⟩ := q_bnd_some hF
    have hfr := hfr.app (fr_X2_spend hc6) (by decide) (by decide) (by decide)
    rcases fr_if hF with hF | hF
    · exact hB127 x1 x3 r4 1 x1 u5 hfr hF
    · exact hB127 x1 x3 r4 0 x1 u5 hfr hF
  have hB75 : ∀ (n : Nat) (x1 : Int32) (x3 : Int32) (x6 : Int32) (x7 : Int32) (u : q_St), Fr wi_X2_writeShingle_12 wa_X2_writeShingle_12 wj_X2_writeShingle_12 u0 u → q_lp (fX2_writeShingle_12_b75 L N) (fun _ _ _ _ _ => none) n x1 x3 x6 x7 u = some (r0, σ0) → Fr wi_X2_writeShingle_12 wa_X2_writeShingle_12 wj_X2_writeShingle_12 u0 σ0 := by
    intro n
    induction n with
    | zero => intro x1 x3 x6 x7 u hfr hF; exact absurd (show (none : Option (Int32 × q_St)) = some _ from hF) (fun h => nomatch h)
    | succ n hi75 =>
      intro x1 x3 x6 x7 u hfr hF
      obtain ⟨ih75, hih⟩ : ∃ q, q = q_lp (fX2_writeShingle_12_b75 L N) (fun _ _ _ _ _ => none) n := ⟨_, rfl⟩
      rw [← hih] at hi75
      have hF : fX2_writeShingle_12_b75 L N (q_lp (fX2_writeShingle_12_b75 L N) (fun _ _ _ _ _ => none) n) x1 x3 x6 x7 u = some (r0, σ0) := hF
      rw [← hih] at hF
      clear hih
      unfold fX2_writeShingle_12_b75 at hF
      rcases fr_if hF with hF | hF
      · exact hB106 x1 x3 u hfr hF
      · rcases fr_if hF with hF | hF
        · exact hB106 x1 x3 u hfr hF
        · obtain ⟨u11, hfr, hF⟩ := fr_wa hfr hF (by decide)
          obtain ⟨v12, hF⟩ := fr_nm hF
          exact hi75 x1 x3 x6 v12 u11 hfr hF
  unfold fX2_writeShingle_12 at hF
  have hfr := Fr.rf wi_X2_writeShingle_12 wa_X2_writeShingle_12 wj_X2_writeShingle_12 u0
  rcases fr_if hF with hF | hF
  · cases hF; exact hfr
  · rcases fr_if hF with hF | hF
    · cases hF; exact hfr
    · rcases fr_if hF with hF | hF
      · cases hF; exact hfr
      · rcases fr_if hF with hF | hF
        · obtain ⟨v1, hF⟩ := fr_nm hF
          have hF := (q_dv_some hF).2
          obtain ⟨v2, hF⟩ := fr_nm hF
          obtain ⟨v3, hF⟩ := fr_nm hF
          exact hB75 N o1 o3 v3 v1 u0 hfr hF
        · cases hF; exact hfr
abbrev wi_X8_merge : List Nat := [7, 8, 10, 11, 13, 19]
abbrev wa_X8_merge : List Nat := [0]
abbrev wj_X8_merge : List Nat := [0]
set_option maxHeartbeats 4000000 in
set_option maxRecDepth 100000 in
theorem fr_X8_merge {L : Nat → Nat} {N : Nat}  {u0 σ0 : q_St} {r0 : Int32} (hF : fX8_merge L N u0 = some (r0, σ0)) : Fr wi_X8_merge wa_X8_merge wj_X8_merge u0 σ0 := by
  have hB2 : ∀ (n : Nat) (x1 : Int32) (u : q_St), Fr wi_X8_merge wa_X8_merge wj_X8_merge u0 u → q_lp (fX8_merge_b2 L N) (fun _ _ => none) n x1 u = some (r0, σ0) → Fr wi_X8_merge wa_X8_merge wj_X8_merge u0 σ0 := by
    intro n
    induction n with
    | zero => intro x1 u hfr hF; exact absurd (show (none : Option (Int32 × q_St)) = some _ from hF) (fun h => nomatch h)
    | succ n hi2 =>
      intro x1 u hfr hF
      obtain ⟨ih2, hih⟩ : ∃ q, q = q_lp (fX8_merge_b2 L N) (fun _ _ => none) n := ⟨_, rfl⟩
      rw [← hih] at hi2
      have hF : fX8_merge_b2 L N (q_lp (fX8_merge_b2 L N) (fun _ _ => none) n) x1 u = some (r0, σ0) := hF
      rw [← hih] at hF
      clear hih
      unfold fX8_merge_b2 at hF
      rcases fr_if hF with hF | hF
      · obtain ⟨u1, hfr, hF⟩ := fr_si hfr hF (by decide)
        cases hF; exact hfr
      · obtain ⟨v2, hF⟩ := fr_nm hF
        obtain ⟨r3, u4, hc5, hF⟩ := q_bnd_some hF
        have hfr := hfr.app (fr_X8_spot hc5) (by decide) (by decide) (by decide)
        obtain ⟨r6, u7, hc8, hF⟩ := q_bnd_some hF
        have hfr := hfr.app (fr_X2_writeShingle_12 hc8) (by decide) (by decide) (by decide)
        rcases fr_if hF with hF | hF
        · cases hF; exact hfr
        · obtain ⟨v9, hF⟩ := fr_nm hF
          exact hi2 v9 u7 hfr hF
  unfold fX8_merge at hF
  have hfr := Fr.rf wi_X8_merge wa_X8_merge wj_X8_merge u0
  exact hB2 N 0 u0 hfr hF
abbrev wi_X8_becomeSafe : List Nat := [7, 8, 12, 18, 19]
abbrev wa_X8_becomeSafe : List Nat := []
abbrev wj_X8_becomeSafe : List Nat := []
set_option maxHeartbeats 4000000 in
set_option maxRecDepth 100000 in
theorem fr_X8_becomeSafe {L : Nat → Nat} {N : Nat}  {u0 σ0 : q_St} {r0 : Int32} (hF : fX8_becomeSafe L N u0 = some (r0, σ0)) : Fr wi_X8_becomeSafe wa_X8_becomeSafe wj_X8_becomeSafe u0 σ0 := by
  unfold fX8_becomeSafe at hF
  have hfr := Fr.rf wi_X8_becomeSafe wa_X8_becomeSafe wj_X8_becomeSafe u0
  obtain ⟨r1, u2, hc3, hF⟩ := q_bnd_some hF
  have hfr := hfr.app (fr_X2_writeRecord hc3) (by decide) (by decide) (by decide)
  rcases fr_if hF with hF | hF
  · cases hF; exact hfr
  · obtain ⟨u4, hfr, hF⟩ := fr_si hfr hF (by decide)
    obtain ⟨u5, hfr, hF⟩ := fr_si hfr hF (by decide)
    cases hF; exact hfr
abbrev wi_X8_bringBack : List Nat := [7, 8, 10, 11, 13, 19]
abbrev wa_X8_bringBack : List Nat := [0]
abbrev wj_X8_bringBack : List Nat := [0]
set_option maxHeartbeats 4000000 in
set_option maxRecDepth 100000 in
theorem fr_X8_bringBack {L : Nat → Nat} {N : Nat}  {u0 σ0 : q_St} {r0 : Int32} (hF : fX8_bringBack L N u0 = some (r0, σ0)) : Fr wi_X8_bringBack wa_X8_bringBack wj_X8_bringBack u0 σ0 := by
  have hB65 : ∀ (ih2 : Int32 → q_St → Option (Int32 × q_St)) (hi2 : ∀ (x1 : Int32) (u : q_St), Fr wi_X8_bringBack wa_X8_bringBack wj_X8_bringBack u0 u → ih2 x1 u = some (r0, σ0) → Fr wi_X8_bringBack wa_X8_bringBack wj_X8_bringBack u0 σ0), ∀ (x1 : Int32) (x2 : Int32) (x3 : Int32) (u : q_St), Fr wi_X8_bringBack wa_X8_bringBack wj_X8_bringBack u0 u → fX8_bringBack_b65 L N ih2 x1 x2 x3 u = some (r0, σ0) → Fr wi_X8_bringBack wa_X8_bringBack wj_X8_bringBack u0 σ0 := by
    intro ih2 hi2 x1 x2 x3 u hfr hF
    unfold fX8_bringBack_b65 at hF
    obtain ⟨r4, u5, hc6, hF⟩ := q_bnd_some hF
    have hfr := hfr.app (fr_X2_writeShingle_12 hc6) (by decide) (by decide) (by decide)
    rcases fr_if hF with hF | hF
    · cases hF; exact hfr
    · obtain ⟨v7, hF⟩ := fr_nm hF
      exact hi2 v7 u5 hfr hF
  have hB2 : ∀ (n : Nat) (x1 : Int32) (u : q_St), Fr wi_X8_bringBack wa_X8_bringBack wj_X8_bringBack u0 u → q_lp (fX8_bringBack_b2 L N) (fun _ _ => none) n x1 u = some (r0, σ0) → Fr wi_X8_bringBack wa_X8_bringBack wj_X8_bringBack u0 σ0 := by
    intro n
    induction n with
    | zero => intro x1 u hfr hF; exact absurd (show (none : Option (Int32 × q_St)) = some _ from hF) (fun h => nomatch h)
    | succ n hi2 =>
      intro x1 u hfr hF
      obtain ⟨ih2, hih⟩ : ∃ q, q = q_lp (fX8_bringBack_b2 L N) (fun _ _ => none) n := ⟨_, rfl⟩
      rw [← hih] at hi2
      have hF : fX8_bringBack_b2 L N (q_lp (fX8_bringBack_b2 L N) (fun _ _ => none) n) x1 u = some (r0, σ0) := hF
      rw [← hih] at hF
      clear hih
      unfold fX8_bringBack_b2 at hF
      rcases fr_if hF with hF | hF
      · obtain ⟨u1, hfr, hF⟩ := fr_si hfr hF (by decide)
        cases hF; exact hfr
      · obtain ⟨v2, hF⟩ := fr_nm hF
        obtain ⟨v3, hF⟩ := fr_nm hF
        rcases fr_if hF with hF | hF
        · exact hB65 ih2 hi2 x1 v2 v3 u hfr hF
        · obtain ⟨v8, hF⟩ := fr_rd hF
          rcases fr_if hF with hF | hF
          · exact hB65 ih2 hi2 x1 v2 v3 u hfr hF
          · obtain ⟨u9, hfr, hF⟩ := fr_si hfr hF (by decide)
            exact hB65 ih2 hi2 x1 v2 v3 u9 hfr hF
  unfold fX8_bringBack at hF
  have hfr := Fr.rf wi_X8_bringBack wa_X8_bringBack wj_X8_bringBack u0
  exact hB2 N 0 u0 hfr hF
abbrev wi_X8_finish : List Nat := [7, 8, 12, 15, 16, 18, 21]
abbrev wa_X8_finish : List Nat := [1]
abbrev wj_X8_finish : List Nat := []
set_option maxHeartbeats 4000000 in
set_option maxRecDepth 100000 in
theorem fr_X8_finish {L : Nat → Nat} {N : Nat}  {u0 σ0 : q_St} {r0 : Int32} (hF : fX8_finish L N u0 = some (r0, σ0)) : Fr wi_X8_finish wa_X8_finish wj_X8_finish u0 σ0 := by
  unfold fX8_finish at hF
  have hfr := Fr.rf wi_X8_finish wa_X8_finish wj_X8_finish u0
  rcases fr_if hF with hF | hF
  · cases hF; exact hfr
  · rcases fr_if hF with hF | hF
    · cases hF; exact hfr
    · obtain ⟨r1, u2, hc3, hF⟩ := q_bnd_some hF
      have hfr := hfr.app (fr_X2_writeRecord hc3) (by decide) (by decide) (by decide)
      rcases fr_if hF with hF | hF
      · cases hF; exact hfr
      · obtain ⟨u4, hfr, hF⟩ := fr_wa hfr hF (by decide)
        obtain ⟨u5, hfr, hF⟩ := fr_si hfr hF (by decide)
        obtain ⟨u6, hfr, hF⟩ := fr_si hfr hF (by decide)
        obtain ⟨r7, u8, hc9, hF⟩ := q_bnd_some hF
        have hfr := hfr.app (fr_X8_oldest hc9) (by decide) (by decide) (by decide)
        obtain ⟨u10, hfr, hF⟩ := fr_si hfr hF (by decide)
        obtain ⟨u11, hfr, hF⟩ := fr_si hfr hF (by decide)
        cases hF; exact hfr
abbrev wi_X8_step : List Nat := [7, 8, 10, 11, 12, 13, 15, 16, 17, 18, 19, 21]
abbrev wa_X8_step : List Nat := [0, 1, 4]
abbrev wj_X8_step : List Nat := [0]
set_option maxHeartbeats 4000000 in
set_option maxRecDepth 100000 in
theorem fr_X8_step {L : Nat → Nat} {N : Nat}  {u0 σ0 : q_St} {r0 : Int32} (hF : fX8_step L N u0 = some (r0, σ0)) : Fr wi_X8_step wa_X8_step wj_X8_step u0 σ0 := by
  have hB96 : ∀ (x1 : Int32) (x2 : Int32) (u : q_St), Fr wi_X8_step wa_X8_step wj_X8_step u0 u → fX8_step_b96 L N x1 x2 u = some (r0, σ0) → Fr wi_X8_step wa_X8_step wj_X8_step u0 σ0 := by
    intro x1 x2 u hfr hF
    unfold fX8_step_b96 at hF
    rcases fr_if hF with hF | hF
    · cases hF; exact hfr
    · cases hF; exact hfr
  unfold fX8_step at hF
  have hfr := Fr.rf wi_X8_step wa_X8_step wj_X8_step u0
  obtain ⟨r1, u2, hc3, hF⟩ := q_bnd_some hF
  have hfr := hfr.app (fr_X8_nextKind hc3) (by decide) (by decide) (by decide)
  rcases fr_if hF with hF | hF
  · obtain ⟨r4, u5, hc6, hF⟩ := q_bnd_some hF
    have hfr := hfr.app (fr_X8_trim hc6) (by decide) (by decide) (by decide)
    exact hB96 r1 r4 u5 hfr hF
  rcases fr_if hF with hF | hF
  · obtain ⟨r7, u8, hc9, hF⟩ := q_bnd_some hF
    have hfr := hfr.app (fr_X8_pick hc9) (by decide) (by decide) (by decide)
    exact hB96 r1 r7 u8 hfr hF
  rcases fr_if hF with hF | hF
  · obtain ⟨r10, u11, hc12, hF⟩ := q_bnd_some hF
    have hfr := hfr.app (fr_X8_merge hc12) (by decide) (by decide) (by decide)
    exact hB96 r1 r10 u11 hfr hF
  rcases fr_if hF with hF | hF
  · obtain ⟨r13, u14, hc15, hF⟩ := q_bnd_some hF
    have hfr := hfr.app (fr_X8_becomeSafe hc15) (by decide) (by decide) (by decide)
    exact hB96 r1 r13 u14 hfr hF
  rcases fr_if hF with hF | hF
  · obtain ⟨r16, u17, hc18, hF⟩ := q_bnd_some hF
    have hfr := hfr.app (fr_X8_bringBack hc18) (by decide) (by decide) (by decide)
    exact hB96 r1 r16 u17 hfr hF
  rcases fr_if hF with hF | hF
  · obtain ⟨r19, u20, hc21, hF⟩ := q_bnd_some hF
    have hfr := hfr.app (fr_X8_finish hc21) (by decide) (by decide) (by decide)
    exact hB96 r1 r19 u20 hfr hF
  exact hB96 r1 1 u2 hfr hF
abbrev wi_X8_write_22 : List Nat := [7, 8, 9, 10, 11, 12, 13, 14, 15, 16, 17, 18, 19, 21]
abbrev wa_X8_write_22 : List Nat := [0, 1, 2, 3, 4]
abbrev wj_X8_write_22 : List Nat := [0]
set_option maxHeartbeats 4000000 in
set_option maxRecDepth 100000 in
theorem fr_X8_write_22 {L : Nat → Nat} {N : Nat} {o1 : Int32} {o3 : Int32} {u0 σ0 : q_St} {r0 : Int32} (hF : fX8_write_22 L N o1 o3 u0 = some (r0, σ0)) : Fr wi_X8_write_22 wa_X8_write_22 wj_X8_write_22 u0 σ0 := by
  have hB62 : ∀ (x1 : Int32) (x3 : Int32) (u : q_St), Fr wi_X8_write_22 wa_X8_write_22 wj_X8_write_22 u0 u → fX8_write_22_b62 L N x1 x3 u = some (r0, σ0) → Fr wi_X8_write_22 wa_X8_write_22 wj_X8_write_22 u0 σ0 := by
    intro x1 x3 u hfr hF
    unfold fX8_write_22_b62 at hF
    have hF := (q_dv_some hF).2
    obtain ⟨v4, hF⟩ := fr_nm hF
    rcases fr_if hF with hF | hF
    · cases hF; exact hfr
    · rcases fr_if hF with hF | hF
      · cases hF; exact hfr
      · rcases fr_if hF with hF | hF
        · cases hF; exact hfr
        · obtain ⟨r5, u6, hc7, hF⟩ := q_bnd_some hF
          have hfr := hfr.app (fr_X2_writeEntry_22 hc7) (by decide) (by decide) (by decide)
          rcases fr_if hF with hF | hF
          · cases hF; exact hfr
          · obtain ⟨u8, hfr, hF⟩ := fr_wa hfr hF (by decide)
            obtain ⟨u9, hfr, hF⟩ := fr_wa hfr hF (by decide)
            obtain ⟨u10, hfr, hF⟩ := fr_si hfr hF (by decide)
            cases hF; exact hfr
  have hB30 : ∀ (n : Nat) (x1 : Int32) (x3 : Int32) (x4 : Int32) (u : q_St), Fr wi_X8_write_22 wa_X8_write_22 wj_X8_write_22 u0 u → q_lp (fX8_write_22_b30 L N) (fun _ _ _ _ => none) n x1 x3 x4 u = some (r0, σ0) → Fr wi_X8_write_22 wa_X8_write_22 wj_X8_write_22 u0 σ0 := by
    intro n
    induction n with
    | zero => intro x1 x3 x4 u hfr hF; exact absurd (show (none : Option (Int32 × q_St)) = some _ from hF) (fun h => nomatch h)
    | succ n hi30 =>
      intro x1 x3 x4 u hfr hF
      obtain ⟨ih30, hih⟩ : ∃ q, q = q_lp (fX8_write_22_b30 L N) (fun _ _ _ _ => none) n := ⟨_, rfl⟩
      rw [← hih] at hi30
      have hF : fX8_write_22_b30 L N (q_lp (fX8_write_22_b30 L N) (fun _ _ _ _ => none) n) x1 x3 x4 u = some (r0, σ0) := hF
      rw [← hih] at hF
      clear hih
      unfold fX8_write_22_b30 at hF
      rcases fr_if hF with hF | hF
      · exact hB62 x1 x3 u hfr hF
      · obtain ⟨r11, u12, hc13, hF⟩ := q_bnd_some hF
        have hfr := hfr.app (fr_X8_freePlaces hc13) (by decide) (by decide) (by decide)
        rcases fr_if hF with hF | hF
        · obtain ⟨r14, u15, hc16, hF⟩ := q_bnd_some hF
          have hfr := hfr.app (fr_X8_step hc16) (by decide) (by decide) (by decide)
          rcases fr_if hF with hF | hF
          · cases hF; exact hfr
          · obtain ⟨v17, hF⟩ := fr_nm hF
            exact hi30 x1 x3 v17 u15 hfr hF
        · exact hB62 x1 x3 u12 hfr hF
  have hB27 : ∀ (x1 : Int32) (x3 : Int32) (u : q_St), Fr wi_X8_write_22 wa_X8_write_22 wj_X8_write_22 u0 u → fX8_write_22_b27 L N x1 x3 u = some (r0, σ0) → Fr wi_X8_write_22 wa_X8_write_22 wj_X8_write_22 u0 σ0 := by
    intro x1 x3 u hfr hF
    unfold fX8_write_22_b27 at hF
    exact hB30 N x1 x3 0 u hfr hF
  unfold fX8_write_22 at hF
  have hfr := Fr.rf wi_X8_write_22 wa_X8_write_22 wj_X8_write_22 u0
  obtain ⟨r1, u2, hc3, hF⟩ := q_bnd_some hF
  have hfr := hfr.app (fr_X8_freePlaces hc3) (by decide) (by decide) (by decide)
  rcases fr_if hF with hF | hF
  · exact hB27 o1 o3 u2 hfr hF
  · obtain ⟨r18, u19, hc20, hF⟩ := q_bnd_some hF
    have hfr := hfr.app (fr_X8_step hc20) (by decide) (by decide) (by decide)
    rcases fr_if hF with hF | hF
    · cases hF; exact hfr
    · exact hB27 o1 o3 u19 hfr hF
abbrev wi_X2_writeEntry_19 : List Nat := [7, 8, 9]
abbrev wa_X2_writeEntry_19 : List Nat := []
abbrev wj_X2_writeEntry_19 : List Nat := [0]
set_option maxHeartbeats 4000000 in
set_option maxRecDepth 100000 in
theorem fr_X2_writeEntry_19 {L : Nat → Nat} {N : Nat} {o1 : Int32} {o3 : Int32} {u0 σ0 : q_St} {r0 : Int32} (hF : fX2_writeEntry_19 L N o1 o3 u0 = some (r0, σ0)) : Fr wi_X2_writeEntry_19 wa_X2_writeEntry_19 wj_X2_writeEntry_19 u0 σ0 := by
  unfold fX2_writeEntry_19 at hF
  have hfr := Fr.rf wi_X2_writeEntry_19 wa_X2_writeEntry_19 wj_X2_writeEntry_19 u0
  rcases fr_if hF with hF | hF
  · cases hF; exact hfr
  · rcases fr_if hF with hF | hF
    · cases hF; exact hfr
    · rcases fr_if hF with hF | hF
      · cases hF; exact hfr
      · rcases fr_if hF with hF | hF
        · cases hF; exact hfr
        · obtain ⟨r1, u2, hc3, hF⟩ := q_bnd_some hF
          have hfr := hfr.app (fr_X2_spend hc3) (by decide) (by decide) (by decide)
          rcases fr_if hF with hF | hF
          · cases hF; exact hfr
          · obtain ⟨u4, hfr, hF⟩ := fr_cp hfr hF (by decide)
            obtain ⟨u5, hfr, hF⟩ := fr_si hfr hF (by decide)
            cases hF; exact hfr
abbrev wi_X8_write_19 : List Nat := [7, 8, 9, 10, 11, 12, 13, 14, 15, 16, 17, 18, 19, 21]
abbrev wa_X8_write_19 : List Nat := [0, 1, 2, 3, 4]
abbrev wj_X8_write_19 : List Nat := [0]
set_option maxHeartbeats 4000000 in
set_option maxRecDepth 100000 in
theorem fr_X8_write_19 {L : Nat → Nat} {N : Nat} {o1 : Int32} {o3 : Int32} {u0 σ0 : q_St} {r0 : Int32} (hF : fX8_write_19 L N o1 o3 u0 = some (r0, σ0)) : Fr wi_X8_write_19 wa_X8_write_19 wj_X8_write_19 u0 σ0 := by
  have hB62 : ∀ (x1 : Int32) (x3 : Int32) (u : q_St), Fr wi_X8_write_19 wa_X8_write_19 wj_X8_write_19 u0 u → fX8_write_19_b62 L N x1 x3 u = some (r0, σ0) → Fr wi_X8_write_19 wa_X8_write_19 wj_X8_write_19 u0 σ0 := by
    intro x1 x3 u hfr hF
    unfold fX8_write_19_b62 at hF
    have hF := (q_dv_some hF).2
    obtain ⟨v4, hF⟩ := fr_nm hF
    rcases fr_if hF with hF | hF
    · cases hF; exact hfr
    · rcases fr_if hF with hF | hF
      · cases hF; exact hfr
      · rcases fr_if hF with hF | hF
        · cases hF; exact hfr
        · obtain ⟨r5, u6, hc7, hF⟩ := q_bnd_some hF
          have hfr := hfr.app (fr_X2_writeEntry_19 hc7) (by decide) (by decide) (by decide)
          rcases fr_if hF with hF | hF
          · cases hF; exact hfr
          · obtain ⟨u8, hfr, hF⟩ := fr_wa hfr hF (by decide)
            obtain ⟨u9, hfr, hF⟩ := fr_wa hfr hF (by decide)
            obtain ⟨u10, hfr, hF⟩ := fr_si hfr hF (by decide)
            cases hF; exact hfr
  have hB30 : ∀ (n : Nat) (x1 : Int32) (x3 : Int32) (x4 : Int32) (u : q_St), Fr wi_X8_write_19 wa_X8_write_19 wj_X8_write_19 u0 u → q_lp (fX8_write_19_b30 L N) (fun _ _ _ _ => none) n x1 x3 x4 u = some (r0, σ0) → Fr wi_X8_write_19 wa_X8_write_19 wj_X8_write_19 u0 σ0 := by
    intro n
    induction n with
    | zero => intro x1 x3 x4 u hfr hF; exact absurd (show (none : Option (Int32 × q_St)) = some _ from hF) (fun h => nomatch h)
    | succ n hi30 =>
      intro x1 x3 x4 u hfr hF
      obtain ⟨ih30, hih⟩ : ∃ q, q = q_lp (fX8_write_19_b30 L N) (fun _ _ _ _ => none) n := ⟨_, rfl⟩
      rw [← hih] at hi30
      have hF : fX8_write_19_b30 L N (q_lp (fX8_write_19_b30 L N) (fun _ _ _ _ => none) n) x1 x3 x4 u = some (r0, σ0) := hF
      rw [← hih] at hF
      clear hih
      unfold fX8_write_19_b30 at hF
      rcases fr_if hF with hF | hF
      · exact hB62 x1 x3 u hfr hF
      · obtain ⟨r11, u12, hc13, hF⟩ := q_bnd_some hF
        have hfr := hfr.app (fr_X8_freePlaces hc13) (by decide) (by decide) (by decide)
        rcases fr_if hF with hF | hF
        · obtain ⟨r14, u15, hc16, hF⟩ := q_bnd_some hF
          have hfr := hfr.app (fr_X8_step hc16) (by decide) (by decide) (by decide)
          rcases fr_if hF with hF | hF
          · cases hF; exact hfr
          · obtain ⟨v17, hF⟩ := fr_nm hF
            exact hi30 x1 x3 v17 u15 hfr hF
        · exact hB62 x1 x3 u12 hfr hF
  have hB27 : ∀ (x1 : Int32) (x3 : Int32) (u : q_St), Fr wi_X8_write_19 wa_X8_write_19 wj_X8_write_19 u0 u → fX8_write_19_b27 L N x1 x3 u = some (r0, σ0) → Fr wi_X8_write_19 wa_X8_write_19 wj_X8_write_19 u0 σ0 := by
    intro x1 x3 u hfr hF
    unfold fX8_write_19_b27 at hF
    exact hB30 N x1 x3 0 u hfr hF
  unfold fX8_write_19 at hF
  have hfr := Fr.rf wi_X8_write_19 wa_X8_write_19 wj_X8_write_19 u0
  obtain ⟨r1, u2, hc3, hF⟩ := q_bnd_some hF
  have hfr := hfr.app (fr_X8_freePlaces hc3) (by decide) (by decide) (by decide)
  rcases fr_if hF with hF | hF
  · exact hB27 o1 o3 u2 hfr hF
  · obtain ⟨r18, u19, hc20, hF⟩ := q_bnd_some hF
    have hfr := hfr.app (fr_X8_step hc20) (by decide) (by decide) (by decide)
    rcases fr_if hF with hF | hF
    · cases hF; exact hfr
    · exact hB27 o1 o3 u19 hfr hF
abbrev wi_X6_listChosen : List Nat := []
abbrev wa_X6_listChosen : List Nat := []
abbrev wj_X6_listChosen : List Nat := [3]
set_option maxHeartbeats 4000000 in
set_option maxRecDepth 100000 in
theorem fr_X6_listChosen {L : Nat → Nat} {N : Nat} {o1 : Int32} {o2 : Int32} {u0 σ0 : q_St} {r0 : Unit} (hF : fX6_listChosen L N o1 o2 u0 = some (r0, σ0)) : Fr wi_X6_listChosen wa_X6_listChosen wj_X6_listChosen u0 σ0 := by
  have hB56 : ∀ (x2 : Int32) (u : q_St), Fr wi_X6_listChosen wa_X6_listChosen wj_X6_listChosen u0 u → fX6_listChosen_b56 L N x2 u = some (r0, σ0) → Fr wi_X6_listChosen wa_X6_listChosen wj_X6_listChosen u0 σ0 := by
    intro x2 u hfr hF
    unfold fX6_listChosen_b56 at hF
    obtain ⟨u4, hfr, hF⟩ := fr_wj hfr hF (by decide)
    cases hF; exact hfr
  have hB10 : ∀ (n : Nat) (x1 : Int32) (x2 : Int32) (x3 : Int32) (u : q_St), Fr wi_X6_listChosen wa_X6_listChosen wj_X6_listChosen u0 u → q_lp (fX6_listChosen_b10 L N) (fun _ _ _ _ => none) n x1 x2 x3 u = some (r0, σ0) → Fr wi_X6_listChosen wa_X6_listChosen wj_X6_listChosen u0 σ0 := by
    intro n
    induction n with
    | zero => intro x1 x2 x3 u hfr hF; exact absurd (show (none : Option (Unit × q_St)) = some _ from hF) (fun h => nomatch h)
    | succ n hi10 =>
      intro x1 x2 x3 u hfr hF
      obtain ⟨ih10, hih⟩ : ∃ q, q = q_lp (fX6_listChosen_b10 L N) (fun _ _ _ _ => none) n := ⟨_, rfl⟩
      rw [← hih] at hi10
      have hF : fX6_listChosen_b10 L N (q_lp (fX6_listChosen_b10 L N) (fun _ _ _ _ => none) n) x1 x2 x3 u = some (r0, σ0) := hF
      rw [← hih] at hF
      clear hih
      unfold fX6_listChosen_b10 at hF
      rcases fr_if hF with hF | hF
      · exact hB56 x2 u hfr hF
      · rcases fr_if hF with hF | hF
        · exact hB56 x2 u hfr hF
        · obtain ⟨v5, hF⟩ := fr_rd hF
          obtain ⟨v6, hF⟩ := fr_rd hF
          obtain ⟨u7, hfr, hF⟩ := fr_wj hfr hF (by decide)
          obtain ⟨v8, hF⟩ := fr_nm hF
          exact hi10 x1 x2 v8 u7 hfr hF
  unfold fX6_listChosen at hF
  have hfr := Fr.rf wi_X6_listChosen wa_X6_listChosen wj_X6_listChosen u0
  obtain ⟨r1, u2, hc3, hF⟩ := q_bnd_some hF
  have hfr := hfr.app (fr_J7_fillJ_22 hc3) (by decide) (by decide) (by decide)
  exact hB10 N o1 o2 0 u2 hfr hF
abbrev wi_X6_writeJournal : List Nat := [7, 8, 9, 10, 11, 12, 13, 14, 15, 16, 17, 18, 19, 21, 24]
abbrev wa_X6_writeJournal : List Nat := [0, 1, 2, 3, 4]
abbrev wj_X6_writeJournal : List Nat := [0, 3]
set_option maxHeartbeats 4000000 in
set_option maxRecDepth 100000 in
theorem fr_X6_writeJournal {L : Nat → Nat} {N : Nat} {o1 : Int32} {u0 σ0 : q_St} {r0 : Int32} (hF : fX6_writeJournal L N o1 u0 = some (r0, σ0)) : Fr wi_X6_writeJournal wa_X6_writeJournal wj_X6_writeJournal u0 σ0 := by
  have hB57 : ∀ (n : Nat) (x1 : Int32) (x2 : Int32) (x3 : Int32) (u : q_St), Fr wi_X6_writeJournal wa_X6_writeJournal wj_X6_writeJournal u0 u → q_lp (fX6_writeJournal_b57 L N) (fun _ _ _ _ => none) n x1 x2 x3 u = some (r0, σ0) → Fr wi_X6_writeJournal wa_X6_writeJournal wj_X6_writeJournal u0 σ0 := by
    intro n
    induction n with
    | zero => intro x1 x2 x3 u hfr hF; exact absurd (show (none : Option (Int32 × q_St)) = some _ from hF) (fun h => nomatch h)
    | succ n hi57 =>
      intro x1 x2 x3 u hfr hF
      obtain ⟨ih57, hih⟩ : ∃ q, q = q_lp (fX6_writeJournal_b57 L N) (fun _ _ _ _ => none) n := ⟨_, rfl⟩
      rw [← hih] at hi57
      have hF : fX6_writeJournal_b57 L N (q_lp (fX6_writeJournal_b57 L N) (fun _ _ _ _ => none) n) x1 x2 x3 u = some (r0, σ0) := hF
      rw [← hih] at hF
      clear hih
      unfold fX6_writeJournal_b57 at hF
      rcases fr_if hF with hF | hF
      · obtain ⟨r2, u3, hc4, hF⟩ := q_bnd_some hF
        have hfr := hfr.app (fr_J7_fillJ_22 hc4) (by decide) (by decide) (by decide)
        obtain ⟨r5, u6, hc7, hF⟩ := q_bnd_some hF
        have hfr := hfr.app (fr_X8_write_22 hc7) (by decide) (by decide) (by decide)
        have hF := (q_rz_some hF).2
        cases hF; exact hfr
      · obtain ⟨v8, hF⟩ := fr_rd hF
        obtain ⟨r9, u10, hc11, hF⟩ := q_bnd_some hF
        have hfr := hfr.app (fr_X8_write_19 hc11) (by decide) (by decide) (by decide)
        rcases fr_if hF with hF | hF
        · cases hF; exact hfr
        · obtain ⟨v12, hF⟩ := fr_nm hF
          exact hi57 x1 x2 v12 u10 hfr hF
  have hB12 : ∀ (n : Nat) (x1 : Int32) (x2 : Int32) (x3 : Int32) (u : q_St), Fr wi_X6_writeJournal wa_X6_writeJournal wj_X6_writeJournal u0 u → q_lp (fX6_writeJournal_b12 L N) (fun _ _ _ _ => none) n x1 x2 x3 u = some (r0, σ0) → Fr wi_X6_writeJournal wa_X6_writeJournal wj_X6_writeJournal u0 σ0 := by
    intro n
    induction n with
    | zero => intro x1 x2 x3 u hfr hF; exact absurd (show (none : Option (Int32 × q_St)) = some _ from hF) (fun h => nomatch h)
    | succ n hi12 =>
      intro x1 x2 x3 u hfr hF
      obtain ⟨ih12, hih⟩ : ∃ q, q = q_lp (fX6_writeJournal_b12 L N) (fun _ _ _ _ => none) n := ⟨_, rfl⟩
      rw [← hih] at hi12
      have hF : fX6_writeJournal_b12 L N (q_lp (fX6_writeJournal_b12 L N) (fun _ _ _ _ => none) n) x1 x2 x3 u = some (r0, σ0) := hF
      rw [← hih] at hF
      clear hih
      unfold fX6_writeJournal_b12 at hF
      rcases fr_if hF with hF | hF
      · exact hB57 N x1 x2 0 u hfr hF
      · obtain ⟨r13, u14, hc15, hF⟩ := q_bnd_some hF
        have hfr := hfr.app (fr_X6_listChosen hc15) (by decide) (by decide) (by decide)
        obtain ⟨r16, u17, hc18, hF⟩ := q_bnd_some hF
        have hfr := hfr.app (fr_X8_write_22 hc18) (by decide) (by decide) (by decide)
        rcases fr_if hF with hF | hF
        · cases hF; exact hfr
        · obtain ⟨u19, hfr, hF⟩ := fr_si hfr hF (by decide)
          obtain ⟨v20, hF⟩ := fr_nm hF
          exact hi12 x1 x2 v20 u19 hfr hF
  unfold fX6_writeJournal at hF
  have hfr := Fr.rf wi_X6_writeJournal wa_X6_writeJournal wj_X6_writeJournal u0
  obtain ⟨v1, hF⟩ := fr_nm hF
  exact hB12 N o1 v1 0 u0 hfr hF
abbrev wi_X6_forgetAll : List Nat := [22]
abbrev wa_X6_forgetAll : List Nat := [5]
abbrev wj_X6_forgetAll : List Nat := []
set_option maxHeartbeats 4000000 in
set_option maxRecDepth 100000 in
theorem fr_X6_forgetAll {L : Nat → Nat} {N : Nat}  {u0 σ0 : q_St} {r0 : Unit} (hF : fX6_forgetAll L N u0 = some (r0, σ0)) : Fr wi_X6_forgetAll wa_X6_forgetAll wj_X6_forgetAll u0 σ0 := by
  have hB2 : ∀ (n : Nat) (x1 : Int32) (u : q_St), Fr wi_X6_forgetAll wa_X6_forgetAll wj_X6_forgetAll u0 u → q_lp (fX6_forgetAll_b2 L N) (fun _ _ => none) n x1 u = some (r0, σ0) → Fr wi_X6_forgetAll wa_X6_forgetAll wj_X6_forgetAll u0 σ0 := by
    intro n
    induction n with
    | zero => intro x1 u hfr hF; exact absurd (show (none : Option (Unit × q_St)) = some _ from hF) (fun h => nomatch h)
    | succ n hi2 =>
      intro x1 u hfr hF
      obtain ⟨ih2, hih⟩ : ∃ q, q = q_lp (fX6_forgetAll_b2 L N) (fun _ _ => none) n := ⟨_, rfl⟩
      rw [← hih] at hi2
      have hF : fX6_forgetAll_b2 L N (q_lp (fX6_forgetAll_b2 L N) (fun _ _ => none) n) x1 u = some (r0, σ0) := hF
      rw [← hih] at hF
      clear hih
      unfold fX6_forgetAll_b2 at hF
      rcases fr_if hF with hF | hF
      · obtain ⟨u1, hfr, hF⟩ := fr_si hfr hF (by decide)
        cases hF; exact hfr
      · obtain ⟨u2, hfr, hF⟩ := fr_wa hfr hF (by decide)
        obtain ⟨v3, hF⟩ := fr_nm hF
        exact hi2 v3 u2 hfr hF
  unfold fX6_forgetAll at hF
  have hfr := Fr.rf wi_X6_forgetAll wa_X6_forgetAll wj_X6_forgetAll u0
  exact hB2 N 0 u0 hfr hF
abbrev wi_X6_commitOver : List Nat := [7, 8, 9, 10, 11, 12, 13, 14, 15, 16, 17, 18, 19, 21, 22, 23, 24]
abbrev wa_X6_commitOver : List Nat := [0, 1, 2, 3, 4, 5, 6]
abbrev wj_X6_commitOver : List Nat := [0, 3]
set_option maxHeartbeats 4000000 in
set_option maxRecDepth 100000 in
theorem fr_X6_commitOver {L : Nat → Nat} {N : Nat} {o1 : Int32} {u0 σ0 : q_St} {r0 : Int32} (hF : fX6_commitOver L N o1 u0 = some (r0, σ0)) : Fr wi_X6_commitOver wa_X6_commitOver wj_X6_commitOver u0 σ0 := by
  have hB96 : ∀ (n : Nat) (x2 : Int32) (x3 : Int32) (u : q_St), Fr wi_X6_commitOver wa_X6_commitOver wj_X6_commitOver u0 u → q_lp (fX6_commitOver_b96 L N) (fun _ _ _ => none) n x2 x3 u = some (r0, σ0) → Fr wi_X6_commitOver wa_X6_commitOver wj_X6_commitOver u0 σ0 := by
    intro n
    induction n with
    | zero => intro x2 x3 u hfr hF; exact absurd (show (none : Option (Int32 × q_St)) = some _ from hF) (fun h => nomatch h)
    | succ n hi96 =>
      intro x2 x3 u hfr hF
      obtain ⟨ih96, hih⟩ : ∃ q, q = q_lp (fX6_commitOver_b96 L N) (fun _ _ _ => none) n := ⟨_, rfl⟩
      rw [← hih] at hi96
      have hF : fX6_commitOver_b96 L N (q_lp (fX6_commitOver_b96 L N) (fun _ _ _ => none) n) x2 x3 u = some (r0, σ0) := hF
      rw [← hih] at hF
      clear hih
      unfold fX6_commitOver_b96 at hF
      rcases fr_if hF with hF | hF
      · obtain ⟨r6, u7, hc8, hF⟩ := q_bnd_some hF
        have hfr := hfr.app (fr_X6_forgetAll hc8) (by decide) (by decide) (by decide)
        cases hF; exact hfr
      · obtain ⟨v9, hF⟩ := fr_rd hF
        obtain ⟨v10, hF⟩ := fr_rd hF
        obtain ⟨r11, u12, hc13, hF⟩ := q_bnd_some hF
        have hfr := hfr.app (fr_X8_write_19 hc13) (by decide) (by decide) (by decide)
        rcases fr_if hF with hF | hF
        · cases hF; exact hfr
        · obtain ⟨v14, hF⟩ := fr_nm hF
          exact hi96 x2 v14 u12 hfr hF
  have hB63 : ∀ (ih26 : Int32 → Int32 → q_St → Option (Int32 × q_St)) (hi26 : ∀ (x2 : Int32) (x3 : Int32) (u : q_St), Fr wi_X6_commitOver wa_X6_commitOver wj_X6_commitOver u0 u → ih26 x2 x3 u = some (r0, σ0) → Fr wi_X6_commitOver wa_X6_commitOver wj_X6_commitOver u0 σ0), ∀ (x2 : Int32) (x3 : Int32) (u : q_St), Fr wi_X6_commitOver wa_X6_commitOver wj_X6_commitOver u0 u → fX6_commitOver_b63 L N ih26 x2 x3 u = some (r0, σ0) → Fr wi_X6_commitOver wa_X6_commitOver wj_X6_commitOver u0 σ0 := by
    intro ih26 hi26 x2 x3 u hfr hF
    unfold fX6_commitOver_b63 at hF
    obtain ⟨v16, hF⟩ := fr_nm hF
    exact hi26 x2 v16 u hfr hF
  have hB26 : ∀ (n : Nat) (x2 : Int32) (x3 : Int32) (u : q_St), Fr wi_X6_commitOver wa_X6_commitOver wj_X6_commitOver u0 u → q_lp (fX6_commitOver_b26 L N) (fun _ _ _ => none) n x2 x3 u = some (r0, σ0) → Fr wi_X6_commitOver wa_X6_commitOver wj_X6_commitOver u0 σ0 := by
    intro n
    induction n with
    | zero => intro x2 x3 u hfr hF; exact absurd (show (none : Option (Int32 × q_St)) = some _ from hF) (fun h => nomatch h)
    | succ n hi26 =>
      intro x2 x3 u hfr hF
      obtain ⟨ih26, hih⟩ : ∃ q, q = q_lp (fX6_commitOver_b26 L N) (fun _ _ _ => none) n := ⟨_, rfl⟩
      rw [← hih] at hi26
      have hF : fX6_commitOver_b26 L N (q_lp (fX6_commitOver_b26 L N) (fun _ _ _ => none) n) x2 x3 u = some (r0, σ0) := hF
      rw [← hih] at hF
      clear hih
      unfold fX6_commitOver_b26 at hF
      rcases fr_if hF with hF | hF
      · obtain ⟨r1, u2, hc3, hF⟩ := q_bnd_some hF
        have hfr := hfr.app (fr_X6_writeJournal hc3) (by decide) (by decide) (by decide)
        rcases fr_if hF with hF | hF
        · cases hF; exact hfr
        · obtain ⟨u4, hfr, hF⟩ := fr_si hfr hF (by decide)
          obtain ⟨u5, hfr, hF⟩ := fr_si hfr hF (by decide)
          exact hB96 N x2 0 u5 hfr hF
      · obtain ⟨v15, hF⟩ := fr_rd hF
        rcases fr_if hF with hF | hF
        · exact hB63 ih26 hi26 x2 x3 u hfr hF
        · rcases fr_if hF with hF | hF
          · exact hB63 ih26 hi26 x2 x3 u hfr hF
          · obtain ⟨u17, hfr, hF⟩ := fr_wa hfr hF (by decide)
            obtain ⟨v18, hF⟩ := fr_nm hF
            exact hB63 ih26 hi26 v18 x3 u17 hfr hF
  unfold fX6_commitOver at hF
  have hfr := Fr.rf wi_X6_commitOver wa_X6_commitOver wj_X6_commitOver u0
  rcases fr_if hF with hF | hF
  · cases hF; exact hfr
  · rcases fr_if hF with hF | hF
    · exact hB26 N 0 0 u0 hfr hF
    · cases hF; exact hfr
abbrev wi_X4_isNumber : List Nat := []
abbrev wa_X4_isNumber : List Nat := []
abbrev wj_X4_isNumber : List Nat := []
set_option maxHeartbeats 4000000 in
set_option maxRecDepth 100000 in
theorem fr_X4_isNumber {L : Nat → Nat} {N : Nat} {o0 : Int32} {u0 σ0 : q_St} {r0 : Int32} (hF : fX4_isNumber L N o0 u0 = some (r0, σ0)) : Fr wi_X4_isNumber wa_X4_isNumber wj_X4_isNumber u0 σ0 := by
  unfold fX4_isNumber at hF
  have hfr := Fr.rf wi_X4_isNumber wa_X4_isNumber wj_X4_isNumber u0
  rcases fr_if hF with hF | hF
  · cases hF; exact hfr
  · rcases fr_if hF with hF | hF
    · cases hF; exact hfr
    · cases hF; exact hfr
abbrev wi_X6_word : List Nat := [13]
abbrev wa_X6_word : List Nat := []
abbrev wj_X6_word : List Nat := []
set_option maxHeartbeats 4000000 in
set_option maxRecDepth 100000 in
theorem fr_X6_word {L : Nat → Nat} {N : Nat} {o1 : Int32} {o2 : Int32} {u0 σ0 : q_St} {r0 : Int64} (hF : fX6_word L N o1 o2 u0 = some (r0, σ0)) : Fr wi_X6_word wa_X6_word wj_X6_word u0 σ0 := by
  unfold fX6_word at hF
  have hfr := Fr.rf wi_X6_word wa_X6_word wj_X6_word u0
  rcases fr_if hF with hF | hF
  · cases hF; exact hfr
  · rcases fr_if hF with hF | hF
    · cases hF; exact hfr
    · rcases fr_if hF with hF | hF
      · cases hF; exact hfr
      · rcases fr_if hF with hF | hF
        · obtain ⟨v1, hF⟩ := fr_rd hF
          rcases fr_if hF with hF | hF
          · obtain ⟨r2, u3, hc4, hF⟩ := q_bnd_some hF
            have hfr := hfr.app (fr_X8_spot hc4) (by decide) (by decide) (by decide)
            obtain ⟨v5, hF⟩ := fr_rd hF
            cases hF; exact hfr
          · obtain ⟨v6, hF⟩ := fr_rd hF
            cases hF; exact hfr
        · cases hF; exact hfr
abbrev wi_X6_octet : List Nat := [13]
abbrev wa_X6_octet : List Nat := []
abbrev wj_X6_octet : List Nat := []
set_option maxHeartbeats 4000000 in
set_option maxRecDepth 100000 in
theorem fr_X6_octet {L : Nat → Nat} {N : Nat} {o1 : Int32} {o2 : Int32} {u0 σ0 : q_St} {r0 : Int32} (hF : fX6_octet L N o1 o2 u0 = some (r0, σ0)) : Fr wi_X6_octet wa_X6_octet wj_X6_octet u0 σ0 := by
  unfold fX6_octet at hF
  have hfr := Fr.rf wi_X6_octet wa_X6_octet wj_X6_octet u0
  obtain ⟨r1, u2, hc3, hF⟩ := q_bnd_some hF
  have hfr := hfr.app (fr_X6_word hc3) (by decide) (by decide) (by decide)
  cases hF; exact hfr
abbrev wi_X4_kindOf : List Nat := [13]
abbrev wa_X4_kindOf : List Nat := []
abbrev wj_X4_kindOf : List Nat := []
set_option maxHeartbeats 4000000 in
set_option maxRecDepth 100000 in
theorem fr_X4_kindOf {L : Nat → Nat} {N : Nat} {o1 : Int32} {u0 σ0 : q_St} {r0 : Int32} (hF : fX4_kindOf L N o1 u0 = some (r0, σ0)) : Fr wi_X4_kindOf wa_X4_kindOf wj_X4_kindOf u0 σ0 := by
  unfold fX4_kindOf at hF
  have hfr := Fr.rf wi_X4_kindOf wa_X4_kindOf wj_X4_kindOf u0
  obtain ⟨r1, u2, hc3, hF⟩ := q_bnd_some hF
  have hfr := hfr.app (fr_X4_isNumber hc3) (by decide) (by decide) (by decide)
  rcases fr_if hF with hF | hF
  · cases hF; exact hfr
  · obtain ⟨r4, u5, hc6, hF⟩ := q_bnd_some hF
    have hfr := hfr.app (fr_X6_octet hc6) (by decide) (by decide) (by decide)
    cases hF; exact hfr
abbrev wi_X3_isNameByte : List Nat := []
abbrev wa_X3_isNameByte : List Nat := []
abbrev wj_X3_isNameByte : List Nat := []
set_option maxHeartbeats 4000000 in
set_option maxRecDepth 100000 in
theorem fr_X3_isNameByte {L : Nat → Nat} {N : Nat} {o0 : Int32} {u0 σ0 : q_St} {r0 : Int32} (hF : fX3_isNameByte L N o0 u0 = some (r0, σ0)) : Fr wi_X3_isNameByte wa_X3_isNameByte wj_X3_isNameByte u0 σ0 := by
  have hB42 : ∀ (u : q_St), Fr wi_X3_isNameByte wa_X3_isNameByte wj_X3_isNameByte u0 u → fX3_isNameByte_b42 L N u = some (r0, σ0) → Fr wi_X3_isNameByte wa_X3_isNameByte wj_X3_isNameByte u0 σ0 := by
    intro u hfr hF
    unfold fX3_isNameByte_b42 at hF
    cases hF; exact hfr
  have hB24 : ∀ (x0 : Int32) (u : q_St), Fr wi_X3_isNameByte wa_X3_isNameByte wj_X3_isNameByte u0 u → fX3_isNameByte_b24 L N x0 u = some (r0, σ0) → Fr wi_X3_isNameByte wa_X3_isNameByte wj_X3_isNameByte u0 σ0 := by
    intro x0 u hfr hF
    unfold fX3_isNameByte_b24 at hF
    rcases fr_if hF with hF | hF
    · exact hB42 u hfr hF
    · rcases fr_if hF with hF | hF
      · exact hB42 u hfr hF
      · rcases fr_if hF with hF | hF
        · exact hB42 u hfr hF
        · cases hF; exact hfr
  have hB12 : ∀ (x0 : Int32) (u : q_St), Fr wi_X3_isNameByte wa_X3_isNameByte wj_X3_isNameByte u0 u → fX3_isNameByte_b12 L N x0 u = some (r0, σ0) → Fr wi_X3_isNameByte wa_X3_isNameByte wj_X3_isNameByte u0 σ0 := by
    intro x0 u hfr hF
    unfold fX3_isNameByte_b12 at hF
    rcases fr_if hF with hF | hF
    · exact hB24 x0 u hfr hF
    · rcases fr_if hF with hF | hF
      · exact hB42 u hfr hF
      · exact hB24 x0 u hfr hF
  unfold fX3_isNameByte at hF
  have hfr := Fr.rf wi_X3_isNameByte wa_X3_isNameByte wj_X3_isNameByte u0
  rcases fr_if hF with hF | hF
  · exact hB12 o0 u0 hfr hF
  · rcases fr_if hF with hF | hF
    · exact hB42 u0 hfr hF
    · exact hB12 o0 u0 hfr hF
abbrev wi_X3_isName : List Nat := []
abbrev wa_X3_isName : List Nat := []
abbrev wj_X3_isName : List Nat := []
set_option maxHeartbeats 4000000 in
set_option maxRecDepth 100000 in
theorem fr_X3_isName {L : Nat → Nat} {N : Nat} {o0 : Int64} {u0 σ0 : q_St} {r0 : Int32} (hF : fX3_isName L N o0 u0 = some (r0, σ0)) : Fr wi_X3_isName wa_X3_isName wj_X3_isName u0 σ0 := by
  have hB43 : ∀ (x0 : Int64) (u : q_St), Fr wi_X3_isName wa_X3_isName wj_X3_isName u0 u → fX3_isName_b43 L N x0 u = some (r0, σ0) → Fr wi_X3_isName wa_X3_isName wj_X3_isName u0 σ0 := by
    intro x0 u hfr hF
    unfold fX3_isName_b43 at hF
    rcases fr_if hF with hF | hF
    · cases hF; exact hfr
    · cases hF; exact hfr
  have hB5 : ∀ (n : Nat) (x0 : Int64) (x2 : Int64) (x4 : Int32) (u : q_St), Fr wi_X3_isName wa_X3_isName wj_X3_isName u0 u → q_lp (fX3_isName_b5 L N) (fun _ _ _ _ => none) n x0 x2 x4 u = some (r0, σ0) → Fr wi_X3_isName wa_X3_isName wj_X3_isName u0 σ0 := by
    intro n
    induction n with
    | zero => intro x0 x2 x4 u hfr hF; exact absurd (show (none : Option (Int32 × q_St)) = some _ from hF) (fun h => nomatch h)
    | succ n hi5 =>
      intro x0 x2 x4 u hfr hF
      obtain ⟨ih5, hih⟩ : ∃ q, q = q_lp (fX3_isName_b5 L N) (fun _ _ _ _ => none) n := ⟨_, rfl⟩
      rw [← hih] at hi5
      have hF : fX3_isName_b5 L N (q_lp (fX3_isName_b5 L N) (fun _ _ _ _ => none) n) x0 x2 x4 u = some (r0, σ0) := hF
      rw [← hih] at hF
      clear hih
      unfold fX3_isName_b5 at hF
      rcases fr_if hF with hF | hF
      · exact hB43 x0 u hfr hF
      · rcases fr_if hF with hF | hF
        · exact hB43 x0 u hfr hF
        · obtain ⟨r1, u2, hc3, hF⟩ := q_bnd_some hF
          have hfr := hfr.app (fr_X3_isNameByte hc3) (by decide) (by decide) (by decide)
          rcases fr_if hF with hF | hF
          · cases hF; exact hfr
          · obtain ⟨v4, hF⟩ := fr_nm hF
            obtain ⟨v5, hF⟩ := fr_nm hF
            exact hi5 x0 v4 v5 u2 hfr hF
  unfold fX3_isName at hF
  have hfr := Fr.rf wi_X3_isName wa_X3_isName wj_X3_isName u0
  exact hB5 N o0 o0 0 u0 hfr hF
abbrev wi_X4_may : List Nat := [13]
abbrev wa_X4_may : List Nat := []
abbrev wj_X4_may : List Nat := []
set_option maxHeartbeats 4000000 in
set_option maxRecDepth 100000 in
theorem fr_X4_may {L : Nat → Nat} {N : Nat} {o1 : Int32} {o2 : Int32} {o3 : Int32} {u0 σ0 : q_St} {r0 : Int32} (hF : fX4_may L N o1 o2 o3 u0 = some (r0, σ0)) : Fr wi_X4_may wa_X4_may wj_X4_may u0 σ0 := by
  have hB61 : ∀ (x2 : Int32) (y0 : Int32) (u : q_St), Fr wi_X4_may wa_X4_may wj_X4_may u0 u → fX4_may_b61 L N x2 y0 u = some (r0, σ0) → Fr wi_X4_may wa_X4_may wj_X4_may u0 σ0 := by
    intro x2 y0 u hfr hF
    unfold fX4_may_b61 at hF
    rcases fr_if hF with hF | hF
    · cases hF; exact hfr
    · cases hF; exact hfr
  unfold fX4_may at hF
  have hfr := Fr.rf wi_X4_may wa_X4_may wj_X4_may u0
  rcases fr_if hF with hF | hF
  · cases hF; exact hfr
  · obtain ⟨r1, u2, hc3, hF⟩ := q_bnd_some hF
    have hfr := hfr.app (fr_X6_word hc3) (by decide) (by decide) (by decide)
    obtain ⟨v4, hF⟩ := fr_nm hF
    obtain ⟨v5, hF⟩ := fr_nm hF
    rcases fr_if hF with hF | hF
    · exact hB61 o2 (v5 >>> (3 &&& 31)) u2 hfr hF
    · exact hB61 o2 v5 u2 hfr hF
abbrev wi_X10_refusalToGoBy : List Nat := [13]
abbrev wa_X10_refusalToGoBy : List Nat := []
abbrev wj_X10_refusalToGoBy : List Nat := []
set_option maxHeartbeats 4000000 in
set_option maxRecDepth 100000 in
theorem fr_X10_refusalToGoBy {L : Nat → Nat} {N : Nat} {o1 : Int32} {o2 : Int64} {u0 σ0 : q_St} {r0 : Int32} (hF : fX10_refusalToGoBy L N o1 o2 u0 = some (r0, σ0)) : Fr wi_X10_refusalToGoBy wa_X10_refusalToGoBy wj_X10_refusalToGoBy u0 σ0 := by
  unfold fX10_refusalToGoBy at hF
  have hfr := Fr.rf wi_X10_refusalToGoBy wa_X10_refusalToGoBy wj_X10_refusalToGoBy u0
  obtain ⟨r1, u2, hc3, hF⟩ := q_bnd_some hF
  have hfr := hfr.app (fr_X4_kindOf hc3) (by decide) (by decide) (by decide)
  rcases fr_if hF with hF | hF
  · obtain ⟨r4, u5, hc6, hF⟩ := q_bnd_some hF
    have hfr := hfr.app (fr_X3_isName hc6) (by decide) (by decide) (by decide)
    rcases fr_if hF with hF | hF
    · cases hF; exact hfr
    · obtain ⟨r7, u8, hc9, hF⟩ := q_bnd_some hF
      have hfr := hfr.app (fr_X4_may hc9) (by decide) (by decide) (by decide)
      rcases fr_if hF with hF | hF
      · cases hF; exact hfr
      · cases hF; exact hfr
  · cases hF; exact hfr
abbrev wi_X4_sectorOf : List Nat := []
abbrev wa_X4_sectorOf : List Nat := []
abbrev wj_X4_sectorOf : List Nat := []
set_option maxHeartbeats 4000000 in
set_option maxRecDepth 100000 in
theorem fr_X4_sectorOf {L : Nat → Nat} {N : Nat} {o1 : Int32} {u0 σ0 : q_St} {r0 : Int32} (hF : fX4_sectorOf L N o1 u0 = some (r0, σ0)) : Fr wi_X4_sectorOf wa_X4_sectorOf wj_X4_sectorOf u0 σ0 := by
  unfold fX4_sectorOf at hF
  have hfr := Fr.rf wi_X4_sectorOf wa_X4_sectorOf wj_X4_sectorOf u0
  cases hF; exact hfr
abbrev wi_X6_half : List Nat := [13]
abbrev wa_X6_half : List Nat := []
abbrev wj_X6_half : List Nat := []
set_option maxHeartbeats 4000000 in
set_option maxRecDepth 100000 in
theorem fr_X6_half {L : Nat → Nat} {N : Nat} {o1 : Int32} {o2 : Int32} {u0 σ0 : q_St} {r0 : Int32} (hF : fX6_half L N o1 o2 u0 = some (r0, σ0)) : Fr wi_X6_half wa_X6_half wj_X6_half u0 σ0 := by
  unfold fX6_half at hF
  have hfr := Fr.rf wi_X6_half wa_X6_half wj_X6_half u0
  rcases fr_if hF with hF | hF
  · cases hF; exact hfr
  · obtain ⟨r1, u2, hc3, hF⟩ := q_bnd_some hF
    have hfr := hfr.app (fr_X6_word hc3) (by decide) (by decide) (by decide)
    cases hF; exact hfr
abbrev wi_X3_blockAt : List Nat := [13]
abbrev wa_X3_blockAt : List Nat := []
abbrev wj_X3_blockAt : List Nat := []
set_option maxHeartbeats 4000000 in
set_option maxRecDepth 100000 in
theorem fr_X3_blockAt {L : Nat → Nat} {N : Nat} {o1 : Int32} {o2 : Int32} {u0 σ0 : q_St} {r0 : Int32} (hF : fX3_blockAt L N o1 o2 u0 = some (r0, σ0)) : Fr wi_X3_blockAt wa_X3_blockAt wj_X3_blockAt u0 σ0 := by
  unfold fX3_blockAt at hF
  have hfr := Fr.rf wi_X3_blockAt wa_X3_blockAt wj_X3_blockAt u0
  obtain ⟨r1, u2, hc3, hF⟩ := q_bnd_some hF
  have hfr := hfr.app (fr_X4_sectorOf hc3) (by decide) (by decide) (by decide)
  obtain ⟨r4, u5, hc6, hF⟩ := q_bnd_some hF
  have hfr := hfr.app (fr_X6_half hc6) (by decide) (by decide) (by decide)
  cases hF; exact hfr
abbrev wi_X3_seek : List Nat := [13]
abbrev wa_X3_seek : List Nat := []
abbrev wj_X3_seek : List Nat := []
set_option maxHeartbeats 4000000 in
set_option maxRecDepth 100000 in
theorem fr_X3_seek {L : Nat → Nat} {N : Nat} {o1 : Int32} {o2 : Int64} {u0 σ0 : q_St} {r0 : Int32} (hF : fX3_seek L N o1 o2 u0 = some (r0, σ0)) : Fr wi_X3_seek wa_X3_seek wj_X3_seek u0 σ0 := by
  have hB29 : ∀ (ih3 : Int32 → Int64 → Int32 → q_St → Option (Int32 × q_St)) (hi3 : ∀ (x1 : Int32) (x2 : Int64) (x4 : Int32) (u : q_St), Fr wi_X3_seek wa_X3_seek wj_X3_seek u0 u → ih3 x1 x2 x4 u = some (r0, σ0) → Fr wi_X3_seek wa_X3_seek wj_X3_seek u0 σ0), ∀ (n : Nat) (x1 : Int32) (x2 : Int64) (x4 : Int32) (x5 : Int32) (x6 : Int32) (u : q_St), Fr wi_X3_seek wa_X3_seek wj_X3_seek u0 u → q_lp (fX3_seek_b29 L N ih3) (fun _ _ _ _ _ _ => none) n x1 x2 x4 x5 x6 u = some (r0, σ0) → Fr wi_X3_seek wa_X3_seek wj_X3_seek u0 σ0 := by
    intro ih3 hi3 n
    induction n with
    | zero => intro x1 x2 x4 x5 x6 u hfr hF; exact absurd (show (none : Option (Int32 × q_St)) = some _ from hF) (fun h => nomatch h)
    | succ n hi29 =>
      intro x1 x2 x4 x5 x6 u hfr hF
      obtain ⟨ih29, hih⟩ : ∃ q, q = q_lp (fX3_seek_b29 L N ih3) (fun _ _ _ _ _ _ => none) n := ⟨_, rfl⟩
      rw [← hih] at hi29
      have hF : fX3_seek_b29 L N ih3 (q_lp (fX3_seek_b29 L N ih3) (fun _ _ _ _ _ _ => none) n) x1 x2 x4 x5 x6 u = some (r0, σ0) := hF
      rw [← hih] at hF
      clear hih
      unfold fX3_seek_b29 at hF
      rcases fr_if hF with hF | hF
      · obtain ⟨v4, hF⟩ := fr_nm hF
        exact hi3 x1 x2 v4 u hfr hF
      · obtain ⟨r5, u6, hc7, hF⟩ := q_bnd_some hF
        have hfr := hfr.app (fr_X6_word hc7) (by decide) (by decide) (by decide)
        rcases fr_if hF with hF | hF
        · cases hF; exact hfr
        · obtain ⟨v8, hF⟩ := fr_nm hF
          exact hi29 x1 x2 x4 x5 v8 u6 hfr hF
  have hB3 : ∀ (n : Nat) (x1 : Int32) (x2 : Int64) (x4 : Int32) (u : q_St), Fr wi_X3_seek wa_X3_seek wj_X3_seek u0 u → q_lp (fX3_seek_b3 L N) (fun _ _ _ _ => none) n x1 x2 x4 u = some (r0, σ0) → Fr wi_X3_seek wa_X3_seek wj_X3_seek u0 σ0 := by
    intro n
    induction n with
    | zero => intro x1 x2 x4 u hfr hF; exact absurd (show (none : Option (Int32 × q_St)) = some _ from hF) (fun h => nomatch h)
    | succ n hi3 =>
      intro x1 x2 x4 u hfr hF
      obtain ⟨ih3, hih⟩ : ∃ q, q = q_lp (fX3_seek_b3 L N) (fun _ _ _ _ => none) n := ⟨_, rfl⟩
      rw [← hih] at hi3
      have hF : fX3_seek_b3 L N (q_lp (fX3_seek_b3 L N) (fun _ _ _ _ => none) n) x1 x2 x4 u = some (r0, σ0) := hF
      rw [← hih] at hF
      clear hih
      unfold fX3_seek_b3 at hF
      rcases fr_if hF with hF | hF
      · cases hF; exact hfr
      · obtain ⟨r1, u2, hc3, hF⟩ := q_bnd_some hF
        have hfr := hfr.app (fr_X3_blockAt hc3) (by decide) (by decide) (by decide)
        rcases fr_if hF with hF | hF
        · cases hF; exact hfr
        · exact hB29 ih3 hi3 N x1 x2 x4 r1 0 u2 hfr hF
  unfold fX3_seek at hF
  have hfr := Fr.rf wi_X3_seek wa_X3_seek wj_X3_seek u0
  exact hB3 N o1 o2 0 u0 hfr hF
abbrev wi_X10_refusalToAdd : List Nat := [13]
abbrev wa_X10_refusalToAdd : List Nat := []
abbrev wj_X10_refusalToAdd : List Nat := []
set_option maxHeartbeats 4000000 in
set_option maxRecDepth 100000 in
theorem fr_X10_refusalToAdd {L : Nat → Nat} {N : Nat} {o1 : Int32} {o2 : Int64} {u0 σ0 : q_St} {r0 : Int32} (hF : fX10_refusalToAdd L N o1 o2 u0 = some (r0, σ0)) : Fr wi_X10_refusalToAdd wa_X10_refusalToAdd wj_X10_refusalToAdd u0 σ0 := by
  unfold fX10_refusalToAdd at hF
  have hfr := Fr.rf wi_X10_refusalToAdd wa_X10_refusalToAdd wj_X10_refusalToAdd u0
  obtain ⟨r1, u2, hc3, hF⟩ := q_bnd_some hF
  have hfr := hfr.app (fr_X10_refusalToGoBy hc3) (by decide) (by decide) (by decide)
  rcases fr_if hF with hF | hF
  · obtain ⟨r4, u5, hc6, hF⟩ := q_bnd_some hF
    have hfr := hfr.app (fr_X3_seek hc6) (by decide) (by decide) (by decide)
    rcases fr_if hF with hF | hF
    · cases hF; exact hfr
    · cases hF; exact hfr
  · cases hF; exact hfr
abbrev wi_X4_lowestFree : List Nat := [13]
abbrev wa_X4_lowestFree : List Nat := []
abbrev wj_X4_lowestFree : List Nat := []
set_option maxHeartbeats 4000000 in
set_option maxRecDepth 100000 in
theorem fr_X4_lowestFree {L : Nat → Nat} {N : Nat}  {u0 σ0 : q_St} {r0 : Int32} (hF : fX4_lowestFree L N u0 = some (r0, σ0)) : Fr wi_X4_lowestFree wa_X4_lowestFree wj_X4_lowestFree u0 σ0 := by
  have hB2 : ∀ (n : Nat) (x1 : Int32) (u : q_St), Fr wi_X4_lowestFree wa_X4_lowestFree wj_X4_lowestFree u0 u → q_lp (fX4_lowestFree_b2 L N) (fun _ _ => none) n x1 u = some (r0, σ0) → Fr wi_X4_lowestFree wa_X4_lowestFree wj_X4_lowestFree u0 σ0 := by
    intro n
    induction n with
    | zero => intro x1 u hfr hF; exact absurd (show (none : Option (Int32 × q_St)) = some _ from hF) (fun h => nomatch h)
    | succ n hi2 =>
      intro x1 u hfr hF
      obtain ⟨ih2, hih⟩ : ∃ q, q = q_lp (fX4_lowestFree_b2 L N) (fun _ _ => none) n := ⟨_, rfl⟩
      rw [← hih] at hi2
      have hF : fX4_lowestFree_b2 L N (q_lp (fX4_lowestFree_b2 L N) (fun _ _ => none) n) x1 u = some (r0, σ0) := hF
      rw [← hih] at hF
      clear hih
      unfold fX4_lowestFree_b2 at hF
      rcases fr_if hF with hF | hF
      · cases hF; exact hfr
      · obtain ⟨r1, u2, hc3, hF⟩ := q_bnd_some hF
        have hfr := hfr.app (fr_X4_kindOf hc3) (by decide) (by decide) (by decide)
        rcases fr_if hF with hF | hF
        · cases hF; exact hfr
        · obtain ⟨v4, hF⟩ := fr_nm hF
          exact hi2 v4 u2 hfr hF
  unfold fX4_lowestFree at hF
  have hfr := Fr.rf wi_X4_lowestFree wa_X4_lowestFree wj_X4_lowestFree u0
  exact hB2 N 0 u0 hfr hF
abbrev wi_J13_bitCount : List Nat := []
abbrev wa_J13_bitCount : List Nat := []
abbrev wj_J13_bitCount : List Nat := []
set_option maxHeartbeats 4000000 in
set_option maxRecDepth 100000 in
theorem fr_J13_bitCount {L : Nat → Nat} {N : Nat} {o0 : Int64} {u0 σ0 : q_St} {r0 : Int32} (hF : fJ13_bitCount L N o0 u0 = some (r0, σ0)) : Fr wi_J13_bitCount wa_J13_bitCount wj_J13_bitCount u0 σ0 := by
  unfold fJ13_bitCount at hF
  have hfr := Fr.rf wi_J13_bitCount wa_J13_bitCount wj_J13_bitCount u0
  obtain ⟨v1, hF⟩ := fr_nm hF
  obtain ⟨v2, hF⟩ := fr_nm hF
  obtain ⟨v3, hF⟩ := fr_nm hF
  obtain ⟨v4, hF⟩ := fr_nm hF
  obtain ⟨v5, hF⟩ := fr_nm hF
  obtain ⟨v6, hF⟩ := fr_nm hF
  cases hF; exact hfr
abbrev wi_X5_freeCount : List Nat := [13]
abbrev wa_X5_freeCount : List Nat := []
abbrev wj_X5_freeCount : List Nat := []
set_option maxHeartbeats 4000000 in
set_option maxRecDepth 100000 in
theorem fr_X5_freeCount {L : Nat → Nat} {N : Nat}  {u0 σ0 : q_St} {r0 : Int32} (hF : fX5_freeCount L N u0 = some (r0, σ0)) : Fr wi_X5_freeCount wa_X5_freeCount wj_X5_freeCount u0 σ0 := by
  have hB4 : ∀ (n : Nat) (x1 : Int32) (x2 : Int32) (u : q_St), Fr wi_X5_freeCount wa_X5_freeCount wj_X5_freeCount u0 u → q_lp (fX5_freeCount_b4 L N) (fun _ _ _ => none) n x1 x2 u = some (r0, σ0) → Fr wi_X5_freeCount wa_X5_freeCount wj_X5_freeCount u0 σ0 := by
    intro n
    induction n with
    | zero => intro x1 x2 u hfr hF; exact absurd (show (none : Option (Int32 × q_St)) = some _ from hF) (fun h => nomatch h)
    | succ n hi4 =>
      intro x1 x2 u hfr hF
      obtain ⟨ih4, hih⟩ : ∃ q, q = q_lp (fX5_freeCount_b4 L N) (fun _ _ _ => none) n := ⟨_, rfl⟩
      rw [← hih] at hi4
      have hF : fX5_freeCount_b4 L N (q_lp (fX5_freeCount_b4 L N) (fun _ _ _ => none) n) x1 x2 u = some (r0, σ0) := hF
      rw [← hih] at hF
      clear hih
      unfold fX5_freeCount_b4 at hF
      rcases fr_if hF with hF | hF
      · cases hF; exact hfr
      · obtain ⟨r1, u2, hc3, hF⟩ := q_bnd_some hF
        have hfr := hfr.app (fr_X6_word hc3) (by decide) (by decide) (by decide)
        obtain ⟨r4, u5, hc6, hF⟩ := q_bnd_some hF
        have hfr := hfr.app (fr_J13_bitCount hc6) (by decide) (by decide) (by decide)
        obtain ⟨v7, hF⟩ := fr_nm hF
        obtain ⟨v8, hF⟩ := fr_nm hF
        exact hi4 v7 v8 u5 hfr hF
  unfold fX5_freeCount at hF
  have hfr := Fr.rf wi_X5_freeCount wa_X5_freeCount wj_X5_freeCount u0
  exact hB4 N 0 0 u0 hfr hF
abbrev wi_X3_hasRoom : List Nat := [13]
abbrev wa_X3_hasRoom : List Nat := []
abbrev wj_X3_hasRoom : List Nat := []
set_option maxHeartbeats 4000000 in
set_option maxRecDepth 100000 in
theorem fr_X3_hasRoom {L : Nat → Nat} {N : Nat} {o1 : Int32} {o2 : Int32} {u0 σ0 : q_St} {r0 : Int32} (hF : fX3_hasRoom L N o1 o2 u0 = some (r0, σ0)) : Fr wi_X3_hasRoom wa_X3_hasRoom wj_X3_hasRoom u0 σ0 := by
  unfold fX3_hasRoom at hF
  have hfr := Fr.rf wi_X3_hasRoom wa_X3_hasRoom wj_X3_hasRoom u0
  obtain ⟨r1, u2, hc3, hF⟩ := q_bnd_some hF
  have hfr := hfr.app (fr_X3_seek hc3) (by decide) (by decide) (by decide)
  rcases fr_if hF with hF | hF
  · obtain ⟨r4, u5, hc6, hF⟩ := q_bnd_some hF
    have hfr := hfr.app (fr_X3_blockAt hc6) (by decide) (by decide) (by decide)
    rcases fr_if hF with hF | hF
    · obtain ⟨r7, u8, hc9, hF⟩ := q_bnd_some hF
      have hfr := hfr.app (fr_X5_freeCount hc9) (by decide) (by decide) (by decide)
      rcases fr_if hF with hF | hF
      · cases hF; exact hfr
      · cases hF; exact hfr
    · cases hF; exact hfr
  · cases hF; exact hfr
abbrev wi_X6_clear : List Nat := [22]
abbrev wa_X6_clear : List Nat := [5]
abbrev wj_X6_clear : List Nat := [2]
set_option maxHeartbeats 4000000 in
set_option maxRecDepth 100000 in
theorem fr_X6_clear {L : Nat → Nat} {N : Nat} {o1 : Int32} {u0 σ0 : q_St} {r0 : Unit} (hF : fX6_clear L N o1 u0 = some (r0, σ0)) : Fr wi_X6_clear wa_X6_clear wj_X6_clear u0 σ0 := by
  have hB42 : ∀ (n : Nat) (x1 : Int32) (x2 : Int32) (u : q_St), Fr wi_X6_clear wa_X6_clear wj_X6_clear u0 u → q_lp (fX6_clear_b42 L N) (fun _ _ _ => none) n x1 x2 u = some (r0, σ0) → Fr wi_X6_clear wa_X6_clear wj_X6_clear u0 σ0 := by
    intro n
    induction n with
    | zero => intro x1 x2 u hfr hF; exact absurd (show (none : Option (Unit × q_St)) = some _ from hF) (fun h => nomatch h)
    | succ n hi42 =>
      intro x1 x2 u hfr hF
      obtain ⟨ih42, hih⟩ : ∃ q, q = q_lp (fX6_clear_b42 L N) (fun _ _ _ => none) n := ⟨_, rfl⟩
      rw [← hih] at hi42
      have hF : fX6_clear_b42 L N (q_lp (fX6_clear_b42 L N) (fun _ _ _ => none) n) x1 x2 u = some (r0, σ0) := hF
      rw [← hih] at hF
      clear hih
      unfold fX6_clear_b42 at hF
      rcases fr_if hF with hF | hF
      · cases hF; exact hfr
      · obtain ⟨u2, hfr, hF⟩ := fr_wj hfr hF (by decide)
        obtain ⟨v3, hF⟩ := fr_nm hF
        exact hi42 x1 v3 u2 hfr hF
  have hB40 : ∀ (x1 : Int32) (u : q_St), Fr wi_X6_clear wa_X6_clear wj_X6_clear u0 u → fX6_clear_b40 L N x1 u = some (r0, σ0) → Fr wi_X6_clear wa_X6_clear wj_X6_clear u0 σ0 := by
    intro x1 u hfr hF
    unfold fX6_clear_b40 at hF
    exact hB42 N x1 0 u hfr hF
  unfold fX6_clear at hF
  have hfr := Fr.rf wi_X6_clear wa_X6_clear wj_X6_clear u0
  rcases fr_if hF with hF | hF
  · cases hF; exact hfr
  · rcases fr_if hF with hF | hF
    · obtain ⟨v1, hF⟩ := fr_rd hF
      rcases fr_if hF with hF | hF
      · obtain ⟨u4, hfr, hF⟩ := fr_wa hfr hF (by decide)
        obtain ⟨u5, hfr, hF⟩ := fr_si hfr hF (by decide)
        exact hB40 o1 u5 hfr hF
      · exact hB40 o1 u0 hfr hF
    · cases hF; exact hfr
abbrev wi_X6_setWord : List Nat := [13, 22]
abbrev wa_X6_setWord : List Nat := [5]
abbrev wj_X6_setWord : List Nat := [2]
set_option maxHeartbeats 4000000 in
set_option maxRecDepth 100000 in
theorem fr_X6_setWord {L : Nat → Nat} {N : Nat} {o1 : Int32} {o2 : Int32} {o3 : Int64} {u0 σ0 : q_St} {r0 : Unit} (hF : fX6_setWord L N o1 o2 o3 u0 = some (r0, σ0)) : Fr wi_X6_setWord wa_X6_setWord wj_X6_setWord u0 σ0 := by
  have hB78 : ∀ (x1 : Int32) (x2 : Int32) (x3 : Int64) (u : q_St), Fr wi_X6_setWord wa_X6_setWord wj_X6_setWord u0 u → fX6_setWord_b78 L N x1 x2 x3 u = some (r0, σ0) → Fr wi_X6_setWord wa_X6_setWord wj_X6_setWord u0 σ0 := by
    intro x1 x2 x3 u hfr hF
    unfold fX6_setWord_b78 at hF
    obtain ⟨u2, hfr, hF⟩ := fr_wj hfr hF (by decide)
    cases hF; exact hfr
  unfold fX6_setWord at hF
  have hfr := Fr.rf wi_X6_setWord wa_X6_setWord wj_X6_setWord u0
  rcases fr_if hF with hF | hF
  · cases hF; exact hfr
  · rcases fr_if hF with hF | hF
    · cases hF; exact hfr
    · rcases fr_if hF with hF | hF
      · cases hF; exact hfr
      · rcases fr_if hF with hF | hF
        · obtain ⟨v1, hF⟩ := fr_rd hF
          rcases fr_if hF with hF | hF
          · obtain ⟨r3, u4, hc5, hF⟩ := q_bnd_some hF
            have hfr := hfr.app (fr_X8_spot hc5) (by decide) (by decide) (by decide)
            obtain ⟨u6, hfr, hF⟩ := fr_cp hfr hF (by decide)
            obtain ⟨u7, hfr, hF⟩ := fr_wa hfr hF (by decide)
            obtain ⟨u8, hfr, hF⟩ := fr_si hfr hF (by decide)
            exact hB78 o1 o2 o3 u8 hfr hF
          · exact hB78 o1 o2 o3 u0 hfr hF
        · cases hF; exact hfr
abbrev wi_X4_begin : List Nat := [13, 22]
abbrev wa_X4_begin : List Nat := [5]
abbrev wj_X4_begin : List Nat := [2]
set_option maxHeartbeats 4000000 in
set_option maxRecDepth 100000 in
theorem fr_X4_begin {L : Nat → Nat} {N : Nat} {o1 : Int32} {o2 : Int32} {o3 : Int32} {o4 : Int32} {u0 σ0 : q_St} {r0 : Unit} (hF : fX4_begin L N o1 o2 o3 o4 u0 = some (r0, σ0)) : Fr wi_X4_begin wa_X4_begin wj_X4_begin u0 σ0 := by
  have hB15 : ∀ (x1 : Int32) (x2 : Int32) (x3 : Int32) (x4 : Int32) (y0 : Int32) (u : q_St), Fr wi_X4_begin wa_X4_begin wj_X4_begin u0 u → fX4_begin_b15 L N x1 x2 x3 x4 y0 u = some (r0, σ0) → Fr wi_X4_begin wa_X4_begin wj_X4_begin u0 σ0 := by
    intro x1 x2 x3 x4 y0 u hfr hF
    unfold fX4_begin_b15 at hF
    obtain ⟨r1, u2, hc3, hF⟩ := q_bnd_some hF
    have hfr := hfr.app (fr_X6_clear hc3) (by decide) (by decide) (by decide)
    obtain ⟨r4, u5, hc6, hF⟩ := q_bnd_some hF
    have hfr := hfr.app (fr_X6_setWord hc6) (by decide) (by decide) (by decide)
    cases hF; exact hfr
  have hB10 : ∀ (x1 : Int32) (x2 : Int32) (x3 : Int32) (x4 : Int32) (u : q_St), Fr wi_X4_begin wa_X4_begin wj_X4_begin u0 u → fX4_begin_b10 L N x1 x2 x3 x4 u = some (r0, σ0) → Fr wi_X4_begin wa_X4_begin wj_X4_begin u0 σ0 := by
    intro x1 x2 x3 x4 u hfr hF
    unfold fX4_begin_b10 at hF
    exact hB15 x1 x2 x3 x4 1 u hfr hF
  unfold fX4_begin at hF
  have hfr := Fr.rf wi_X4_begin wa_X4_begin wj_X4_begin u0
  rcases fr_if hF with hF | hF
  · exact hB10 o1 o2 o3 o4 u0 hfr hF
  · rcases fr_if hF with hF | hF
    · exact hB10 o1 o2 o3 o4 u0 hfr hF
    · exact hB15 o1 o2 o3 o4 0 u0 hfr hF
abbrev wi_X5_takeBlank : List Nat := [13, 22]
abbrev wa_X5_takeBlank : List Nat := [5]
abbrev wj_X5_takeBlank : List Nat := [2]
set_option maxHeartbeats 4000000 in
set_option maxRecDepth 100000 in
theorem fr_X5_takeBlank {L : Nat → Nat} {N : Nat}  {u0 σ0 : q_St} {r0 : Int32} (hF : fX5_takeBlank L N u0 = some (r0, σ0)) : Fr wi_X5_takeBlank wa_X5_takeBlank wj_X5_takeBlank u0 σ0 := by
  have hB106 : ∀ (ih2 : Int32 → q_St → Option (Int32 × q_St)) (hi2 : ∀ (x1 : Int32) (u : q_St), Fr wi_X5_takeBlank wa_X5_takeBlank wj_X5_takeBlank u0 u → ih2 x1 u = some (r0, σ0) → Fr wi_X5_takeBlank wa_X5_takeBlank wj_X5_takeBlank u0 σ0), ∀ (x1 : Int32) (u : q_St), Fr wi_X5_takeBlank wa_X5_takeBlank wj_X5_takeBlank u0 u → fX5_takeBlank_b106 L N ih2 x1 u = some (r0, σ0) → Fr wi_X5_takeBlank wa_X5_takeBlank wj_X5_takeBlank u0 σ0 := by
    intro ih2 hi2 x1 u hfr hF
    unfold fX5_takeBlank_b106 at hF
    obtain ⟨v10, hF⟩ := fr_nm hF
    exact hi2 v10 u hfr hF
  have hB2 : ∀ (n : Nat) (x1 : Int32) (u : q_St), Fr wi_X5_takeBlank wa_X5_takeBlank wj_X5_takeBlank u0 u → q_lp (fX5_takeBlank_b2 L N) (fun _ _ => none) n x1 u = some (r0, σ0) → Fr wi_X5_takeBlank wa_X5_takeBlank wj_X5_takeBlank u0 σ0 := by
    intro n
    induction n with
    | zero => intro x1 u hfr hF; exact absurd (show (none : Option (Int32 × q_St)) = some _ from hF) (fun h => nomatch h)
    | succ n hi2 =>
      intro x1 u hfr hF
      obtain ⟨ih2, hih⟩ : ∃ q, q = q_lp (fX5_takeBlank_b2 L N) (fun _ _ => none) n := ⟨_, rfl⟩
      rw [← hih] at hi2
      have hF : fX5_takeBlank_b2 L N (q_lp (fX5_takeBlank_b2 L N) (fun _ _ => none) n) x1 u = some (r0, σ0) := hF
      rw [← hih] at hF
      clear hih
      unfold fX5_takeBlank_b2 at hF
      rcases fr_if hF with hF | hF
      · cases hF; exact hfr
      · obtain ⟨r1, u2, hc3, hF⟩ := q_bnd_some hF
        have hfr := hfr.app (fr_X6_word hc3) (by decide) (by decide) (by decide)
        obtain ⟨v4, hF⟩ := fr_nm hF
        obtain ⟨v5, hF⟩ := fr_nm hF
        obtain ⟨r6, u7, hc8, hF⟩ := q_bnd_some hF
        have hfr := hfr.app (fr_J13_bitCount hc8) (by decide) (by decide) (by decide)
        obtain ⟨v9, hF⟩ := fr_nm hF
        rcases fr_if hF with hF | hF
        · exact hB106 ih2 hi2 x1 u7 hfr hF
        · rcases fr_if hF with hF | hF
          · exact hB106 ih2 hi2 x1 u7 hfr hF
          · obtain ⟨r11, u12, hc13, hF⟩ := q_bnd_some hF
            have hfr := hfr.app (fr_X6_setWord hc13) (by decide) (by decide) (by decide)
            obtain ⟨r14, u15, hc16, hF⟩ := q_bnd_some hF
            have hfr := hfr.app (fr_X6_clear hc16) (by decide) (by decide) (by decide)
            cases hF; exact hfr
  unfold fX5_takeBlank at hF
  have hfr := Fr.rf wi_X5_takeBlank wa_X5_takeBlank wj_X5_takeBlank u0
  exact hB2 N 0 u0 hfr hF
abbrev wi_X6_setHalf : List Nat := [13, 22]
abbrev wa_X6_setHalf : List Nat := [5]
abbrev wj_X6_setHalf : List Nat := [2]
set_option maxHeartbeats 4000000 in
set_option maxRecDepth 100000 in
theorem fr_X6_setHalf {L : Nat → Nat} {N : Nat} {o1 : Int32} {o2 : Int32} {o3 : Int32} {u0 σ0 : q_St} {r0 : Unit} (hF : fX6_setHalf L N o1 o2 o3 u0 = some (r0, σ0)) : Fr wi_X6_setHalf wa_X6_setHalf wj_X6_setHalf u0 σ0 := by
  unfold fX6_setHalf at hF
  have hfr := Fr.rf wi_X6_setHalf wa_X6_setHalf wj_X6_setHalf u0
  obtain ⟨v1, hF⟩ := fr_nm hF
  obtain ⟨r2, u3, hc4, hF⟩ := q_bnd_some hF
  have hfr := hfr.app (fr_X6_word hc4) (by decide) (by decide) (by decide)
  obtain ⟨v5, hF⟩ := fr_nm hF
  obtain ⟨r6, u7, hc8, hF⟩ := q_bnd_some hF
  have hfr := hfr.app (fr_X6_setWord hc8) (by decide) (by decide) (by decide)
  cases hF; exact hfr
abbrev wi_X3_fillSlot : List Nat := [13, 22]
abbrev wa_X3_fillSlot : List Nat := [5]
abbrev wj_X3_fillSlot : List Nat := [2]
set_option maxHeartbeats 4000000 in
set_option maxRecDepth 100000 in
theorem fr_X3_fillSlot {L : Nat → Nat} {N : Nat} {o1 : Int32} {o2 : Int32} {o3 : Int64} {o5 : Int32} {u0 σ0 : q_St} {r0 : Unit} (hF : fX3_fillSlot L N o1 o2 o3 o5 u0 = some (r0, σ0)) : Fr wi_X3_fillSlot wa_X3_fillSlot wj_X3_fillSlot u0 σ0 := by
  unfold fX3_fillSlot at hF
  have hfr := Fr.rf wi_X3_fillSlot wa_X3_fillSlot wj_X3_fillSlot u0
  obtain ⟨r1, u2, hc3, hF⟩ := q_bnd_some hF
  have hfr := hfr.app (fr_X6_setWord hc3) (by decide) (by decide) (by decide)
  obtain ⟨r4, u5, hc6, hF⟩ := q_bnd_some hF
  have hfr := hfr.app (fr_X6_setHalf hc6) (by decide) (by decide) (by decide)
  cases hF; exact hfr
abbrev wi_X3_add : List Nat := [13, 22]
abbrev wa_X3_add : List Nat := [5]
abbrev wj_X3_add : List Nat := [2]
set_option maxHeartbeats 4000000 in
set_option maxRecDepth 100000 in
theorem fr_X3_add {L : Nat → Nat} {N : Nat} {o1 : Int32} {o2 : Int64} {o4 : Int32} {u0 σ0 : q_St} {r0 : Unit} (hF : fX3_add L N o1 o2 o4 u0 = some (r0, σ0)) : Fr wi_X3_add wa_X3_add wj_X3_add u0 σ0 := by
  have hB38 : ∀ (n : Nat) (x1 : Int32) (x2 : Int64) (x4 : Int32) (x6 : Int32) (u : q_St), Fr wi_X3_add wa_X3_add wj_X3_add u0 u → q_lp (fX3_add_b38 L N) (fun _ _ _ _ _ => none) n x1 x2 x4 x6 u = some (r0, σ0) → Fr wi_X3_add wa_X3_add wj_X3_add u0 σ0 := by
    intro n
    induction n with
    | zero => intro x1 x2 x4 x6 u hfr hF; exact absurd (show (none : Option (Unit × q_St)) = some _ from hF) (fun h => nomatch h)
    | succ n hi38 =>
      intro x1 x2 x4 x6 u hfr hF
      obtain ⟨ih38, hih⟩ : ∃ q, q = q_lp (fX3_add_b38 L N) (fun _ _ _ _ _ => none) n := ⟨_, rfl⟩
      rw [← hih] at hi38
      have hF : fX3_add_b38 L N (q_lp (fX3_add_b38 L N) (fun _ _ _ _ _ => none) n) x1 x2 x4 x6 u = some (r0, σ0) := hF
      rw [← hih] at hF
      clear hih
      unfold fX3_add_b38 at hF
      rcases fr_if hF with hF | hF
      · cases hF; exact hfr
      · obtain ⟨r4, u5, hc6, hF⟩ := q_bnd_some hF
        have hfr := hfr.app (fr_X3_blockAt hc6) (by decide) (by decide) (by decide)
        rcases fr_if hF with hF | hF
        · obtain ⟨r8, u9, hc10, hF⟩ := q_bnd_some hF
          have hfr := hfr.app (fr_X5_takeBlank hc10) (by decide) (by decide) (by decide)
          obtain ⟨r11, u12, hc13, hF⟩ := q_bnd_some hF
          have hfr := hfr.app (fr_X4_sectorOf hc13) (by decide) (by decide) (by decide)
          obtain ⟨r14, u15, hc16, hF⟩ := q_bnd_some hF
          have hfr := hfr.app (fr_X6_setHalf hc16) (by decide) (by decide) (by decide)
          obtain ⟨r17, u18, hc19, hF⟩ := q_bnd_some hF
          have hfr := hfr.app (fr_X3_fillSlot hc19) (by decide) (by decide) (by decide)
          cases hF; exact hfr
        · obtain ⟨v7, hF⟩ := fr_nm hF
          exact hi38 x1 x2 x4 v7 u5 hfr hF
  unfold fX3_add at hF
  have hfr := Fr.rf wi_X3_add wa_X3_add wj_X3_add u0
  obtain ⟨r1, u2, hc3, hF⟩ := q_bnd_some hF
  have hfr := hfr.app (fr_X3_seek hc3) (by decide) (by decide) (by decide)
  rcases fr_if hF with hF | hF
  · exact hB38 N o1 o2 o4 0 u2 hfr hF
  · obtain ⟨r20, u21, hc22, hF⟩ := q_bnd_some hF
    have hfr := hfr.app (fr_X3_blockAt hc22) (by decide) (by decide) (by decide)
    obtain ⟨r23, u24, hc25, hF⟩ := q_bnd_some hF
    have hfr := hfr.app (fr_X3_fillSlot hc25) (by decide) (by decide) (by decide)
    cases hF; exact hfr
abbrev wi_X10_enter : List Nat := [13, 22]
abbrev wa_X10_enter : List Nat := [5]
abbrev wj_X10_enter : List Nat := [2]
set_option maxHeartbeats 4000000 in
set_option maxRecDepth 100000 in
theorem fr_X10_enter {L : Nat → Nat} {N : Nat} {o1 : Int32} {o2 : Int64} {o4 : Int32} {o5 : Int32} {u0 σ0 : q_St} {r0 : Int32} (hF : fX10_enter L N o1 o2 o4 o5 u0 = some (r0, σ0)) : Fr wi_X10_enter wa_X10_enter wj_X10_enter u0 σ0 := by
  have hB47 : ∀ (x1 : Int32) (x2 : Int64) (x4 : Int32) (x5 : Int32) (u : q_St), Fr wi_X10_enter wa_X10_enter wj_X10_enter u0 u → fX10_enter_b47 L N x1 x2 x4 x5 u = some (r0, σ0) → Fr wi_X10_enter wa_X10_enter wj_X10_enter u0 σ0 := by
    intro x1 x2 x4 x5 u hfr hF
    unfold fX10_enter_b47 at hF
    obtain ⟨r4, u5, hc6, hF⟩ := q_bnd_some hF
    have hfr := hfr.app (fr_X4_lowestFree hc6) (by decide) (by decide) (by decide)
    rcases fr_if hF with hF | hF
    · cases hF; exact hfr
    · obtain ⟨r7, u8, hc9, hF⟩ := q_bnd_some hF
      have hfr := hfr.app (fr_X3_hasRoom hc9) (by decide) (by decide) (by decide)
      rcases fr_if hF with hF | hF
      · cases hF; exact hfr
      · obtain ⟨r10, u11, hc12, hF⟩ := q_bnd_some hF
        have hfr := hfr.app (fr_X4_begin hc12) (by decide) (by decide) (by decide)
        obtain ⟨r13, u14, hc15, hF⟩ := q_bnd_some hF
        have hfr := hfr.app (fr_X3_add hc15) (by decide) (by decide) (by decide)
        cases hF; exact hfr
  unfold fX10_enter at hF
  have hfr := Fr.rf wi_X10_enter wa_X10_enter wj_X10_enter u0
  obtain ⟨r1, u2, hc3, hF⟩ := q_bnd_some hF
  have hfr := hfr.app (fr_X10_refusalToAdd hc3) (by decide) (by decide) (by decide)
  rcases fr_if hF with hF | hF
  · rcases fr_if hF with hF | hF
    · rcases fr_if hF with hF | hF
      · cases hF; exact hfr
      · rcases fr_if hF with hF | hF
        · exact hB47 o1 o2 o4 o5 u2 hfr hF
        · cases hF; exact hfr
    · exact hB47 o1 o2 o4 o5 u2 hfr hF
  · cases hF; exact hfr
abbrev wi_X10_make : List Nat := [7, 8, 9, 10, 11, 12, 13, 14, 15, 16, 17, 18, 19, 21, 22, 23, 24]
abbrev wa_X10_make : List Nat := [0, 1, 2, 3, 4, 5, 6]
abbrev wj_X10_make : List Nat := [0, 2, 3]
set_option maxHeartbeats 4000000 in
set_option maxRecDepth 100000 in
theorem fr_X10_make {L : Nat → Nat} {N : Nat} {o1 : Int32} {o2 : Int64} {u0 σ0 : q_St} {r0 : Int32} (hF : fX10_make L N o1 o2 u0 = some (r0, σ0)) : Fr wi_X10_make wa_X10_make wj_X10_make u0 σ0 := by
  unfold fX10_make at hF
  have hfr := Fr.rf wi_X10_make wa_X10_make wj_X10_make u0
  obtain ⟨r1, u2, hc3, hF⟩ := q_bnd_some hF
  have hfr := hfr.app (fr_X6_commitOver hc3) (by decide) (by decide) (by decide)
  rcases fr_if hF with hF | hF
  · cases hF; exact hfr
  · obtain ⟨r4, u5, hc6, hF⟩ := q_bnd_some hF
    have hfr := hfr.app (fr_X10_enter hc6) (by decide) (by decide) (by decide)
    cases hF; exact hfr
abbrev wi_X4_setHolder : List Nat := [13, 22]
abbrev wa_X4_setHolder : List Nat := [5]
abbrev wj_X4_setHolder : List Nat := [2]
set_option maxHeartbeats 4000000 in
set_option maxRecDepth 100000 in
theorem fr_X4_setHolder {L : Nat → Nat} {N : Nat} {o1 : Int32} {o2 : Int32} {u0 σ0 : q_St} {r0 : Unit} (hF : fX4_setHolder L N o1 o2 u0 = some (r0, σ0)) : Fr wi_X4_setHolder wa_X4_setHolder wj_X4_setHolder u0 σ0 := by
  unfold fX4_setHolder at hF
  have hfr := Fr.rf wi_X4_setHolder wa_X4_setHolder wj_X4_setHolder u0
  obtain ⟨r1, u2, hc3, hF⟩ := q_bnd_some hF
  have hfr := hfr.app (fr_X6_setHalf hc3) (by decide) (by decide) (by decide)
  cases hF; exact hfr
abbrev wi_X10_dir : List Nat := [7, 8, 9, 10, 11, 12, 13, 14, 15, 16, 17, 18, 19, 21, 22, 23, 24]
abbrev wa_X10_dir : List Nat := [0, 1, 2, 3, 4, 5, 6]
abbrev wj_X10_dir : List Nat := [0, 2, 3]
set_option maxHeartbeats 4000000 in
set_option maxRecDepth 100000 in
theorem fr_X10_dir {L : Nat → Nat} {N : Nat} {o1 : Int32} {o2 : Int64} {u0 σ0 : q_St} {r0 : Int32} (hF : fX10_dir L N o1 o2 u0 = some (r0, σ0)) : Fr wi_X10_dir wa_X10_dir wj_X10_dir u0 σ0 := by
  unfold fX10_dir at hF
  have hfr := Fr.rf wi_X10_dir wa_X10_dir wj_X10_dir u0
  obtain ⟨r1, u2, hc3, hF⟩ := q_bnd_some hF
  have hfr := hfr.app (fr_X6_commitOver hc3) (by decide) (by decide) (by decide)
  rcases fr_if hF with hF | hF
  · cases hF; exact hfr
  · obtain ⟨r4, u5, hc6, hF⟩ := q_bnd_some hF
    have hfr := hfr.app (fr_X10_enter hc6) (by decide) (by decide) (by decide)
    rcases fr_if hF with hF | hF
    · cases hF; exact hfr
    · obtain ⟨r7, u8, hc9, hF⟩ := q_bnd_some hF
      have hfr := hfr.app (fr_X4_setHolder hc9) (by decide) (by decide) (by decide)
      cases hF; exact hfr
abbrev wi_X5_isSet : List Nat := [13]
abbrev wa_X5_isSet : List Nat := []
abbrev wj_X5_isSet : List Nat := []
set_option maxHeartbeats 4000000 in
set_option maxRecDepth 100000 in
theorem fr_X5_isSet {L : Nat → Nat} {N : Nat} {o1 : Int32} {u0 σ0 : q_St} {r0 : Int32} (hF : fX5_isSet L N o1 u0 = some (r0, σ0)) : Fr wi_X5_isSet wa_X5_isSet wj_X5_isSet u0 σ0 := by
  unfold fX5_isSet at hF
  have hfr := Fr.rf wi_X5_isSet wa_X5_isSet wj_X5_isSet u0
  obtain ⟨r1, u2, hc3, hF⟩ := q_bnd_some hF
  have hfr := hfr.app (fr_X6_word hc3) (by decide) (by decide) (by decide)
  rcases fr_if hF with hF | hF
  · cases hF; exact hfr
  · cases hF; exact hfr
abbrev wi_X5_isFree : List Nat := [13]
abbrev wa_X5_isFree : List Nat := []
abbrev wj_X5_isFree : List Nat := []
set_option maxHeartbeats 4000000 in
set_option maxRecDepth 100000 in
theorem fr_X5_isFree {L : Nat → Nat} {N : Nat} {o1 : Int32} {u0 σ0 : q_St} {r0 : Int32} (hF : fX5_isFree L N o1 u0 = some (r0, σ0)) : Fr wi_X5_isFree wa_X5_isFree wj_X5_isFree u0 σ0 := by
  unfold fX5_isFree at hF
  have hfr := Fr.rf wi_X5_isFree wa_X5_isFree wj_X5_isFree u0
  rcases fr_if hF with hF | hF
  · cases hF; exact hfr
  · rcases fr_if hF with hF | hF
    · cases hF; exact hfr
    · obtain ⟨r1, u2, hc3, hF⟩ := q_bnd_some hF
      have hfr := hfr.app (fr_X5_isSet hc3) (by decide) (by decide) (by decide)
      rcases fr_if hF with hF | hF
      · cases hF; exact hfr
      · cases hF; exact hfr
abbrev wi_X6_committedWord : List Nat := [13]
abbrev wa_X6_committedWord : List Nat := []
abbrev wj_X6_committedWord : List Nat := []
set_option maxHeartbeats 4000000 in
set_option maxRecDepth 100000 in
theorem fr_X6_committedWord {L : Nat → Nat} {N : Nat} {o1 : Int32} {o2 : Int32} {u0 σ0 : q_St} {r0 : Int64} (hF : fX6_committedWord L N o1 o2 u0 = some (r0, σ0)) : Fr wi_X6_committedWord wa_X6_committedWord wj_X6_committedWord u0 σ0 := by
  unfold fX6_committedWord at hF
  have hfr := Fr.rf wi_X6_committedWord wa_X6_committedWord wj_X6_committedWord u0
  rcases fr_if hF with hF | hF
  · cases hF; exact hfr
  · rcases fr_if hF with hF | hF
    · cases hF; exact hfr
    · rcases fr_if hF with hF | hF
      · cases hF; exact hfr
      · rcases fr_if hF with hF | hF
        · obtain ⟨r1, u2, hc3, hF⟩ := q_bnd_some hF
          have hfr := hfr.app (fr_X8_spot hc3) (by decide) (by decide) (by decide)
          obtain ⟨v4, hF⟩ := fr_rd hF
          cases hF; exact hfr
        · cases hF; exact hfr
abbrev wi_X5_wasSet : List Nat := [13]
abbrev wa_X5_wasSet : List Nat := []
abbrev wj_X5_wasSet : List Nat := []
set_option maxHeartbeats 4000000 in
set_option maxRecDepth 100000 in
theorem fr_X5_wasSet {L : Nat → Nat} {N : Nat} {o1 : Int32} {u0 σ0 : q_St} {r0 : Int32} (hF : fX5_wasSet L N o1 u0 = some (r0, σ0)) : Fr wi_X5_wasSet wa_X5_wasSet wj_X5_wasSet u0 σ0 := by
  unfold fX5_wasSet at hF
  have hfr := Fr.rf wi_X5_wasSet wa_X5_wasSet wj_X5_wasSet u0
  obtain ⟨r1, u2, hc3, hF⟩ := q_bnd_some hF
  have hfr := hfr.app (fr_X6_committedWord hc3) (by decide) (by decide) (by decide)
  rcases fr_if hF with hF | hF
  · cases hF; exact hfr
  · cases hF; exact hfr
abbrev wi_X5_isBandFree : List Nat := [13]
abbrev wa_X5_isBandFree : List Nat := []
abbrev wj_X5_isBandFree : List Nat := []
set_option maxHeartbeats 4000000 in
set_option maxRecDepth 100000 in
theorem fr_X5_isBandFree {L : Nat → Nat} {N : Nat} {o1 : Int32} {u0 σ0 : q_St} {r0 : Int32} (hF : fX5_isBandFree L N o1 u0 = some (r0, σ0)) : Fr wi_X5_isBandFree wa_X5_isBandFree wj_X5_isBandFree u0 σ0 := by
  have hB9 : ∀ (n : Nat) (x2 : Int32) (x3 : Int32) (u : q_St), Fr wi_X5_isBandFree wa_X5_isBandFree wj_X5_isBandFree u0 u → q_lp (fX5_isBandFree_b9 L N) (fun _ _ _ => none) n x2 x3 u = some (r0, σ0) → Fr wi_X5_isBandFree wa_X5_isBandFree wj_X5_isBandFree u0 σ0 := by
    intro n
    induction n with
    | zero => intro x2 x3 u hfr hF; exact absurd (show (none : Option (Int32 × q_St)) = some _ from hF) (fun h => nomatch h)
    | succ n hi9 =>
      intro x2 x3 u hfr hF
      obtain ⟨ih9, hih⟩ : ∃ q, q = q_lp (fX5_isBandFree_b9 L N) (fun _ _ _ => none) n := ⟨_, rfl⟩
      rw [← hih] at hi9
      have hF : fX5_isBandFree_b9 L N (q_lp (fX5_isBandFree_b9 L N) (fun _ _ _ => none) n) x2 x3 u = some (r0, σ0) := hF
      rw [← hih] at hF
      clear hih
      unfold fX5_isBandFree_b9 at hF
      rcases fr_if hF with hF | hF
      · cases hF; exact hfr
      · obtain ⟨r2, u3, hc4, hF⟩ := q_bnd_some hF
        have hfr := hfr.app (fr_X5_isFree hc4) (by decide) (by decide) (by decide)
        rcases fr_if hF with hF | hF
        · cases hF; exact hfr
        · obtain ⟨r5, u6, hc7, hF⟩ := q_bnd_some hF
          have hfr := hfr.app (fr_X5_wasSet hc7) (by decide) (by decide) (by decide)
          rcases fr_if hF with hF | hF
          · obtain ⟨v8, hF⟩ := fr_nm hF
            exact hi9 x2 v8 u6 hfr hF
          · cases hF; exact hfr
  unfold fX5_isBandFree at hF
  have hfr := Fr.rf wi_X5_isBandFree wa_X5_isBandFree wj_X5_isBandFree u0
  obtain ⟨v1, hF⟩ := fr_nm hF
  exact hB9 N v1 v1 u0 hfr hF
abbrev wi_X10_bandToLay : List Nat := [13]
abbrev wa_X10_bandToLay : List Nat := []
abbrev wj_X10_bandToLay : List Nat := []
set_option maxHeartbeats 4000000 in
set_option maxRecDepth 100000 in
theorem fr_X10_bandToLay {L : Nat → Nat} {N : Nat}  {u0 σ0 : q_St} {r0 : Int32} (hF : fX10_bandToLay L N u0 = some (r0, σ0)) : Fr wi_X10_bandToLay wa_X10_bandToLay wj_X10_bandToLay u0 σ0 := by
  have hB39 : ∀ (ih11 : Int32 → q_St → Option (Int32 × q_St)) (hi11 : ∀ (x1 : Int32) (u : q_St), Fr wi_X10_bandToLay wa_X10_bandToLay wj_X10_bandToLay u0 u → ih11 x1 u = some (r0, σ0) → Fr wi_X10_bandToLay wa_X10_bandToLay wj_X10_bandToLay u0 σ0), ∀ (x1 : Int32) (u : q_St), Fr wi_X10_bandToLay wa_X10_bandToLay wj_X10_bandToLay u0 u → fX10_bandToLay_b39 L N ih11 x1 u = some (r0, σ0) → Fr wi_X10_bandToLay wa_X10_bandToLay wj_X10_bandToLay u0 σ0 := by
    intro ih11 hi11 x1 u hfr hF
    unfold fX10_bandToLay_b39 at hF
    obtain ⟨v2, hF⟩ := fr_nm hF
    exact hi11 v2 u hfr hF
  have hB11 : ∀ (n : Nat) (x1 : Int32) (u : q_St), Fr wi_X10_bandToLay wa_X10_bandToLay wj_X10_bandToLay u0 u → q_lp (fX10_bandToLay_b11 L N) (fun _ _ => none) n x1 u = some (r0, σ0) → Fr wi_X10_bandToLay wa_X10_bandToLay wj_X10_bandToLay u0 σ0 := by
    intro n
    induction n with
    | zero => intro x1 u hfr hF; exact absurd (show (none : Option (Int32 × q_St)) = some _ from hF) (fun h => nomatch h)
    | succ n hi11 =>
      intro x1 u hfr hF
      obtain ⟨ih11, hih⟩ : ∃ q, q = q_lp (fX10_bandToLay_b11 L N) (fun _ _ => none) n := ⟨_, rfl⟩
      rw [← hih] at hi11
      have hF : fX10_bandToLay_b11 L N (q_lp (fX10_bandToLay_b11 L N) (fun _ _ => none) n) x1 u = some (r0, σ0) := hF
      rw [← hih] at hF
      clear hih
      unfold fX10_bandToLay_b11 at hF
      rcases fr_if hF with hF | hF
      · cases hF; exact hfr
      · rcases fr_if hF with hF | hF
        · exact hB39 ih11 hi11 x1 u hfr hF
        · obtain ⟨r3, u4, hc5, hF⟩ := q_bnd_some hF
          have hfr := hfr.app (fr_X5_isBandFree hc5) (by decide) (by decide) (by decide)
          rcases fr_if hF with hF | hF
          · exact hB39 ih11 hi11 x1 u4 hfr hF
          · cases hF; exact hfr
  unfold fX10_bandToLay at hF
  have hfr := Fr.rf wi_X10_bandToLay wa_X10_bandToLay wj_X10_bandToLay u0
  obtain ⟨v1, hF⟩ := fr_nm hF
  exact hB11 N v1 u0 hfr hF
abbrev wi_X2_writeShingle_18 : List Nat := [7, 8, 10, 11]
abbrev wa_X2_writeShingle_18 : List Nat := [0]
abbrev wj_X2_writeShingle_18 : List Nat := [0]
set_option maxHeartbeats 4000000 in
set_option maxRecDepth 100000 in
theorem fr_X2_writeShingle_18 {L : Nat → Nat} {N : Nat} {o1 : Int32} {o3 : Int32} {u0 σ0 : q_St} {r0 : Int32} (hF : fX2_writeShingle_18 L N o1 o3 u0 = some (r0, σ0)) : Fr wi_X2_writeShingle_18 wa_X2_writeShingle_18 wj_X2_writeShingle_18 u0 σ0 := by
  have hB127 : ∀ (x1 : Int32) (x3 : Int32) (x7 : Int32) (y0 : Int32) (y1 : Int32) (u : q_St), Fr wi_X2_writeShingle_18 wa_X2_writeShingle_18 wj_X2_writeShingle_18 u0 u → fX2_writeShingle_18_b127 L N x1 x3 x7 y0 y1 u = some (r0, σ0) → Fr wi_X2_writeShingle_18 wa_X2_writeShingle_18 wj_X2_writeShingle_18 u0 σ0 := by
    intro x1 x3 x7 y0 y1 u hfr hF
    unfold fX2_writeShingle_18_b127 at hF
    obtain ⟨u7, hfr, hF⟩ := fr_wa hfr hF (by decide)
    rcases fr_if hF with hF | hF
    · cases hF; exact hfr
    · obtain ⟨u8, hfr, hF⟩ := fr_cp hfr hF (by decide)
      rcases fr_if hF with hF | hF
      · obtain ⟨u9, hfr, hF⟩ := fr_si hfr hF (by decide)
        cases hF; exact hfr
      · obtain ⟨u10, hfr, hF⟩ := fr_si hfr hF (by decide)
        cases hF; exact hfr
  have hB106 : ∀ (x1 : Int32) (x3 : Int32) (u : q_St), Fr wi_X2_writeShingle_18 wa_X2_writeShingle_18 wj_X2_writeShingle_18 u0 u → fX2_writeShingle_18_b106 L N x1 x3 u = some (r0, σ0) → Fr wi_X2_writeShingle_18 wa_X2_writeShingle_18 wj_X2_writeShingle_18 u0 σ0 := by
    intro x1 x3 u hfr hF
    unfold fX2_writeShingle_18_b106 at hF
    obtain ⟨r4, u5, hc6, hF⟩ := q_bnd_some hF
    have hfr := hfr.app (fr_X2_spend hc6) (by decide) (by decide) (by decide)
    rcases fr_if hF with hF | hF
    · exact hB127 x1 x3 r4 1 x1 u5 hfr hF
    · exact hB127 x1 x3 r4 0 x1 u5 hfr hF
  have hB75 : ∀ (n : Nat) (x1 : Int32) (x3 : Int32) (x6 : Int32) (x7 : Int32) (u : q_St), Fr wi_X2_writeShingle_18 wa_X2_writeShingle_18 wj_X2_writeShingle_18 u0 u → q_lp (fX2_writeShingle_18_b75 L N) (fun _ _ _ _ _ => none) n x1 x3 x6 x7 u = some (r0, σ0) → Fr wi_X2_writeShingle_18 wa_X2_writeShingle_18 wj_X2_writeShingle_18 u0 σ0 := by
    intro n
    induction n with
    | zero => intro x1 x3 x6 x7 u hfr hF; exact absurd (show (none : Option (Int32 × q_St)) = some _ from hF) (fun h => nomatch h)
    | succ n hi75 =>
      intro x1 x3 x6 x7 u hfr hF
      obtain ⟨ih75, hih⟩ : ∃ q, q = q_lp (fX2_writeShingle_18_b75 L N) (fun _ _ _ _ _ => none) n := ⟨_, rfl⟩
      rw [← hih] at hi75
      have hF : fX2_writeShingle_18_b75 L N (q_lp (fX2_writeShingle_18_b75 L N) (fun _ _ _ _ _ => none) n) x1 x3 x6 x7 u = some (r0, σ0) := hF
      rw [← hih] at hF
      clear hih
      unfold fX2_writeShingle_18_b75 at hF
      rcases fr_if hF with hF | hF
      · exact hB106 x1 x3 u hfr hF
      · rcases fr_if hF with hF | hF
        · exact hB106 x1 x3 u hfr hF
        · obtain ⟨u11, hfr, hF⟩ := fr_wa hfr hF (by decide)
          obtain ⟨v12, hF⟩ := fr_nm hF
          exact hi75 x1 x3 x6 v12 u11 hfr hF
  unfold fX2_writeShingle_18 at hF
  have hfr := Fr.rf wi_X2_writeShingle_18 wa_X2_writeShingle_18 wj_X2_writeShingle_18 u0
  rcases fr_if hF with hF | hF
  · cases hF; exact hfr
  · rcases fr_if hF with hF | hF
    · cases hF; exact hfr
    · rcases fr_if hF with hF | hF
      · cases hF; exact hfr
      · rcases fr_if hF with hF | hF
        · obtain ⟨v1, hF⟩ := fr_nm hF
          have hF := (q_dv_some hF).2
          obtain ⟨v2, hF⟩ := fr_nm hF
          obtain ⟨v3, hF⟩ := fr_nm hF
          exact hB75 N o1 o3 v3 v1 u0 hfr hF
        · cases hF; exact hfr
abbrev wi_X7_byteOf_8 : List Nat := []
abbrev wa_X7_byteOf_8 : List Nat := []
abbrev wj_X7_byteOf_8 : List Nat := []
set_option maxHeartbeats 4000000 in
set_option maxRecDepth 100000 in
theorem fr_X7_byteOf_8 {L : Nat → Nat} {N : Nat} {o1 : Int32} {u0 σ0 : q_St} {r0 : Int32} (hF : fX7_byteOf_8 L N o1 u0 = some (r0, σ0)) : Fr wi_X7_byteOf_8 wa_X7_byteOf_8 wj_X7_byteOf_8 u0 σ0 := by
  unfold fX7_byteOf_8 at hF
  have hfr := Fr.rf wi_X7_byteOf_8 wa_X7_byteOf_8 wj_X7_byteOf_8 u0
  rcases fr_if hF with hF | hF
  · cases hF; exact hfr
  · rcases fr_if hF with hF | hF
    · cases hF; exact hfr
    · rcases fr_if hF with hF | hF
      · cases hF; exact hfr
      · obtain ⟨v1, hF⟩ := fr_rd hF
        cases hF; exact hfr
abbrev wi_X8_fill_8 : List Nat := [7, 8, 10, 11]
abbrev wa_X8_fill_8 : List Nat := [0]
abbrev wj_X8_fill_8 : List Nat := [0, 1]
set_option maxHeartbeats 4000000 in
set_option maxRecDepth 100000 in
theorem fr_X8_fill_8 {L : Nat → Nat} {N : Nat}  {u0 σ0 : q_St} {r0 : Int32} (hF : fX8_fill_8 L N u0 = some (r0, σ0)) : Fr wi_X8_fill_8 wa_X8_fill_8 wj_X8_fill_8 u0 σ0 := by
  have hB72 : ∀ (ih4 : Int32 → Int32 → q_St → Option (Int32 × q_St)) (hi4 : ∀ (x2 : Int32) (x3 : Int32) (u : q_St), Fr wi_X8_fill_8 wa_X8_fill_8 wj_X8_fill_8 u0 u → ih4 x2 x3 u = some (r0, σ0) → Fr wi_X8_fill_8 wa_X8_fill_8 wj_X8_fill_8 u0 σ0), ∀ (ih18 : Int32 → Int32 → Int32 → q_St → Option (Int32 × q_St)) (hi18 : ∀ (x2 : Int32) (x3 : Int32) (x4 : Int32) (u : q_St), Fr wi_X8_fill_8 wa_X8_fill_8 wj_X8_fill_8 u0 u → ih18 x2 x3 x4 u = some (r0, σ0) → Fr wi_X8_fill_8 wa_X8_fill_8 wj_X8_fill_8 u0 σ0), ∀ (ih31 : Int32 → Int32 → Int32 → Int64 → Int32 → q_St → Option (Int32 × q_St)) (hi31 : ∀ (x2 : Int32) (x3 : Int32) (x4 : Int32) (x5 : Int64) (x7 : Int32) (u : q_St), Fr wi_X8_fill_8 wa_X8_fill_8 wj_X8_fill_8 u0 u → ih31 x2 x3 x4 x5 x7 u = some (r0, σ0) → Fr wi_X8_fill_8 wa_X8_fill_8 wj_X8_fill_8 u0 σ0), ∀ (x3 : Int32) (x4 : Int32) (x5 : Int64) (x7 : Int32) (y0 : Int32) (u : q_St), Fr wi_X8_fill_8 wa_X8_fill_8 wj_X8_fill_8 u0 u → fX8_fill_8_b72 L N ih4 ih18 ih31 x3 x4 x5 x7 y0 u = some (r0, σ0) → Fr wi_X8_fill_8 wa_X8_fill_8 wj_X8_fill_8 u0 σ0 := by
    intro ih4 hi4 ih18 hi18 ih31 hi31 x3 x4 x5 x7 y0 u hfr hF
    unfold fX8_fill_8_b72 at hF
    obtain ⟨v11, hF⟩ := fr_nm hF
    exact hi31 y0 x3 x4 x5 v11 u hfr hF
  have hB31 : ∀ (ih4 : Int32 → Int32 → q_St → Option (Int32 × q_St)) (hi4 : ∀ (x2 : Int32) (x3 : Int32) (u : q_St), Fr wi_X8_fill_8 wa_X8_fill_8 wj_X8_fill_8 u0 u → ih4 x2 x3 u = some (r0, σ0) → Fr wi_X8_fill_8 wa_X8_fill_8 wj_X8_fill_8 u0 σ0), ∀ (ih18 : Int32 → Int32 → Int32 → q_St → Option (Int32 × q_St)) (hi18 : ∀ (x2 : Int32) (x3 : Int32) (x4 : Int32) (u : q_St), Fr wi_X8_fill_8 wa_X8_fill_8 wj_X8_fill_8 u0 u → ih18 x2 x3 x4 u = some (r0, σ0) → Fr wi_X8_fill_8 wa_X8_fill_8 wj_X8_fill_8 u0 σ0), ∀ (n : Nat) (x2 : Int32) (x3 : Int32) (x4 : Int32) (x5 : Int64) (x7 : Int32) (u : q_St), Fr wi_X8_fill_8 wa_X8_fill_8 wj_X8_fill_8 u0 u → q_lp (fX8_fill_8_b31 L N ih4 ih18) (fun _ _ _ _ _ _ => none) n x2 x3 x4 x5 x7 u = some (r0, σ0) → Fr wi_X8_fill_8 wa_X8_fill_8 wj_X8_fill_8 u0 σ0 := by
    intro ih4 hi4 ih18 hi18 n
    induction n with
    | zero => intro x2 x3 x4 x5 x7 u hfr hF; exact absurd (show (none : Option (Int32 × q_St)) = some _ from hF) (fun h => nomatch h)
    | succ n hi31 =>
      intro x2 x3 x4 x5 x7 u hfr hF
      obtain ⟨ih31, hih⟩ : ∃ q, q = q_lp (fX8_fill_8_b31 L N ih4 ih18) (fun _ _ _ _ _ _ => none) n := ⟨_, rfl⟩
      rw [← hih] at hi31
      have hF : fX8_fill_8_b31 L N ih4 ih18 (q_lp (fX8_fill_8_b31 L N ih4 ih18) (fun _ _ _ _ _ _ => none) n) x2 x3 x4 x5 x7 u = some (r0, σ0) := hF
      rw [← hih] at hF
      clear hih
      unfold fX8_fill_8_b31 at hF
      rcases fr_if hF with hF | hF
      · obtain ⟨u5, hfr, hF⟩ := fr_wj hfr hF (by decide)
        obtain ⟨v6, hF⟩ := fr_nm hF
        exact hi18 x2 x3 v6 u5 hfr hF
      · obtain ⟨r7, u8, hc9, hF⟩ := q_bnd_some hF
        have hfr := hfr.app (fr_X7_byteOf_8 hc9) (by decide) (by decide) (by decide)
        obtain ⟨v10, hF⟩ := fr_nm hF
        rcases fr_if hF with hF | hF
        · exact hB72 ih4 hi4 ih18 hi18 ih31 hi31 x3 x4 v10 x7 0 u8 hfr hF
        · exact hB72 ih4 hi4 ih18 hi18 ih31 hi31 x3 x4 v10 x7 (x2 + 1) u8 hfr hF
  have hB18 : ∀ (ih4 : Int32 → Int32 → q_St → Option (Int32 × q_St)) (hi4 : ∀ (x2 : Int32) (x3 : Int32) (u : q_St), Fr wi_X8_fill_8 wa_X8_fill_8 wj_X8_fill_8 u0 u → ih4 x2 x3 u = some (r0, σ0) → Fr wi_X8_fill_8 wa_X8_fill_8 wj_X8_fill_8 u0 σ0), ∀ (n : Nat) (x2 : Int32) (x3 : Int32) (x4 : Int32) (u : q_St), Fr wi_X8_fill_8 wa_X8_fill_8 wj_X8_fill_8 u0 u → q_lp (fX8_fill_8_b18 L N ih4) (fun _ _ _ _ => none) n x2 x3 x4 u = some (r0, σ0) → Fr wi_X8_fill_8 wa_X8_fill_8 wj_X8_fill_8 u0 σ0 := by
    intro ih4 hi4 n
    induction n with
    | zero => intro x2 x3 x4 u hfr hF; exact absurd (show (none : Option (Int32 × q_St)) = some _ from hF) (fun h => nomatch h)
    | succ n hi18 =>
      intro x2 x3 x4 u hfr hF
      obtain ⟨ih18, hih⟩ : ∃ q, q = q_lp (fX8_fill_8_b18 L N ih4) (fun _ _ _ _ => none) n := ⟨_, rfl⟩
      rw [← hih] at hi18
      have hF : fX8_fill_8_b18 L N ih4 (q_lp (fX8_fill_8_b18 L N ih4) (fun _ _ _ _ => none) n) x2 x3 x4 u = some (r0, σ0) := hF
      rw [← hih] at hF
      clear hih
      unfold fX8_fill_8_b18 at hF
      rcases fr_if hF with hF | hF
      · obtain ⟨r1, u2, hc3, hF⟩ := q_bnd_some hF
        have hfr := hfr.app (fr_X2_writeShingle_18 hc3) (by decide) (by decide) (by decide)
        rcases fr_if hF with hF | hF
        · cases hF; exact hfr
        · obtain ⟨v4, hF⟩ := fr_nm hF
          exact hi4 x2 v4 u2 hfr hF
      · exact hB31 ih4 hi4 ih18 hi18 N x2 x3 x4 0 0 u hfr hF
  have hB4 : ∀ (n : Nat) (x2 : Int32) (x3 : Int32) (u : q_St), Fr wi_X8_fill_8 wa_X8_fill_8 wj_X8_fill_8 u0 u → q_lp (fX8_fill_8_b4 L N) (fun _ _ _ => none) n x2 x3 u = some (r0, σ0) → Fr wi_X8_fill_8 wa_X8_fill_8 wj_X8_fill_8 u0 σ0 := by
    intro n
    induction n with
    | zero => intro x2 x3 u hfr hF; exact absurd (show (none : Option (Int32 × q_St)) = some _ from hF) (fun h => nomatch h)
    | succ n hi4 =>
      intro x2 x3 u hfr hF
      obtain ⟨ih4, hih⟩ : ∃ q, q = q_lp (fX8_fill_8_b4 L N) (fun _ _ _ => none) n := ⟨_, rfl⟩
      rw [← hih] at hi4
      have hF : fX8_fill_8_b4 L N (q_lp (fX8_fill_8_b4 L N) (fun _ _ _ => none) n) x2 x3 u = some (r0, σ0) := hF
      rw [← hih] at hF
      clear hih
      unfold fX8_fill_8_b4 at hF
      rcases fr_if hF with hF | hF
      · cases hF; exact hfr
      · exact hB18 ih4 hi4 N x2 x3 0 u hfr hF
  unfold fX8_fill_8 at hF
  have hfr := Fr.rf wi_X8_fill_8 wa_X8_fill_8 wj_X8_fill_8 u0
  exact hB4 N 0 0 u0 hfr hF
abbrev wi_X8_endStream : List Nat := [7, 8, 12, 15, 20]
abbrev wa_X8_endStream : List Nat := []
abbrev wj_X8_endStream : List Nat := []
set_option maxHeartbeats 4000000 in
set_option maxRecDepth 100000 in
theorem fr_X8_endStream {L : Nat → Nat} {N : Nat}  {u0 σ0 : q_St} {r0 : Int32} (hF : fX8_endStream L N u0 = some (r0, σ0)) : Fr wi_X8_endStream wa_X8_endStream wj_X8_endStream u0 σ0 := by
  unfold fX8_endStream at hF
  have hfr := Fr.rf wi_X8_endStream wa_X8_endStream wj_X8_endStream u0
  obtain ⟨r1, u2, hc3, hF⟩ := q_bnd_some hF
  have hfr := hfr.app (fr_X2_writeRecord hc3) (by decide) (by decide) (by decide)
  rcases fr_if hF with hF | hF
  · cases hF; exact hfr
  · obtain ⟨u4, hfr, hF⟩ := fr_si hfr hF (by decide)
    obtain ⟨r5, u6, hc7, hF⟩ := q_bnd_some hF
    have hfr := hfr.app (fr_X8_oldest hc7) (by decide) (by decide) (by decide)
    obtain ⟨u8, hfr, hF⟩ := fr_si hfr hF (by decide)
    cases hF; exact hfr
abbrev wi_X8_stream_8 : List Nat := [7, 8, 10, 11, 12, 15, 20]
abbrev wa_X8_stream_8 : List Nat := [0, 1]
abbrev wj_X8_stream_8 : List Nat := [0, 1]
set_option maxHeartbeats 4000000 in
set_option maxRecDepth 100000 in
theorem fr_X8_stream_8 {L : Nat → Nat} {N : Nat} {o1 : Int32} {u0 σ0 : q_St} {r0 : Int32} (hF : fX8_stream_8 L N o1 u0 = some (r0, σ0)) : Fr wi_X8_stream_8 wa_X8_stream_8 wj_X8_stream_8 u0 σ0 := by
  unfold fX8_stream_8 at hF
  have hfr := Fr.rf wi_X8_stream_8 wa_X8_stream_8 wj_X8_stream_8 u0
  rcases fr_if hF with hF | hF
  · cases hF; exact hfr
  · rcases fr_if hF with hF | hF
    · cases hF; exact hfr
    · obtain ⟨r1, u2, hc3, hF⟩ := q_bnd_some hF
      have hfr := hfr.app (fr_X2_writeRecord hc3) (by decide) (by decide) (by decide)
      rcases fr_if hF with hF | hF
      · cases hF; exact hfr
      · obtain ⟨u4, hfr, hF⟩ := fr_wa hfr hF (by decide)
        obtain ⟨u5, hfr, hF⟩ := fr_si hfr hF (by decide)
        obtain ⟨r6, u7, hc8, hF⟩ := q_bnd_some hF
        have hfr := hfr.app (fr_X8_fill_8 hc8) (by decide) (by decide) (by decide)
        rcases fr_if hF with hF | hF
        · cases hF; exact hfr
        · obtain ⟨r9, u10, hc11, hF⟩ := q_bnd_some hF
          have hfr := hfr.app (fr_X8_endStream hc11) (by decide) (by decide) (by decide)
          rcases fr_if hF with hF | hF
          · cases hF; exact hfr
          · cases hF; exact hfr
abbrev wi_X5_takeBand : List Nat := [13, 22]
abbrev wa_X5_takeBand : List Nat := [5]
abbrev wj_X5_takeBand : List Nat := [2]
set_option maxHeartbeats 4000000 in
set_option maxRecDepth 100000 in
theorem fr_X5_takeBand {L : Nat → Nat} {N : Nat} {o1 : Int32} {u0 σ0 : q_St} {r0 : Unit} (hF : fX5_takeBand L N o1 u0 = some (r0, σ0)) : Fr wi_X5_takeBand wa_X5_takeBand wj_X5_takeBand u0 σ0 := by
  have hB9 : ∀ (n : Nat) (x2 : Int32) (x3 : Int32) (u : q_St), Fr wi_X5_takeBand wa_X5_takeBand wj_X5_takeBand u0 u → q_lp (fX5_takeBand_b9 L N) (fun _ _ _ => none) n x2 x3 u = some (r0, σ0) → Fr wi_X5_takeBand wa_X5_takeBand wj_X5_takeBand u0 σ0 := by
    intro n
    induction n with
    | zero => intro x2 x3 u hfr hF; exact absurd (show (none : Option (Unit × q_St)) = some _ from hF) (fun h => nomatch h)
    | succ n hi9 =>
      intro x2 x3 u hfr hF
      obtain ⟨ih9, hih⟩ : ∃ q, q = q_lp (fX5_takeBand_b9 L N) (fun _ _ _ => none) n := ⟨_, rfl⟩
      rw [← hih] at hi9
      have hF : fX5_takeBand_b9 L N (q_lp (fX5_takeBand_b9 L N) (fun _ _ _ => none) n) x2 x3 u = some (r0, σ0) := hF
      rw [← hih] at hF
      clear hih
      unfold fX5_takeBand_b9 at hF
      rcases fr_if hF with hF | hF
      · cases hF; exact hfr
      · obtain ⟨v2, hF⟩ := fr_nm hF
        obtain ⟨r3, u4, hc5, hF⟩ := q_bnd_some hF
        have hfr := hfr.app (fr_X6_word hc5) (by decide) (by decide) (by decide)
        obtain ⟨r6, u7, hc8, hF⟩ := q_bnd_some hF
        have hfr := hfr.app (fr_X6_setWord hc8) (by decide) (by decide) (by decide)
        obtain ⟨v9, hF⟩ := fr_nm hF
        exact hi9 x2 v9 u7 hfr hF
  unfold fX5_takeBand at hF
  have hfr := Fr.rf wi_X5_takeBand wa_X5_takeBand wj_X5_takeBand u0
  obtain ⟨v1, hF⟩ := fr_nm hF
  exact hB9 N v1 v1 u0 hfr hF
abbrev wi_X10_enterLaid : List Nat := [7, 8, 10, 11, 12, 13, 15, 20, 22]
abbrev wa_X10_enterLaid : List Nat := [0, 1, 5]
abbrev wj_X10_enterLaid : List Nat := [0, 1, 2]
set_option maxHeartbeats 4000000 in
set_option maxRecDepth 100000 in
theorem fr_X10_enterLaid {L : Nat → Nat} {N : Nat} {o1 : Int32} {o2 : Int64} {u0 σ0 : q_St} {r0 : Int32} (hF : fX10_enterLaid L N o1 o2 u0 = some (r0, σ0)) : Fr wi_X10_enterLaid wa_X10_enterLaid wj_X10_enterLaid u0 σ0 := by
  unfold fX10_enterLaid at hF
  have hfr := Fr.rf wi_X10_enterLaid wa_X10_enterLaid wj_X10_enterLaid u0
  obtain ⟨r1, u2, hc3, hF⟩ := q_bnd_some hF
  have hfr := hfr.app (fr_X10_refusalToAdd hc3) (by decide) (by decide) (by decide)
  rcases fr_if hF with hF | hF
  · rcases fr_if hF with hF | hF
    · cases hF; exact hfr
    · obtain ⟨r4, u5, hc6, hF⟩ := q_bnd_some hF
      have hfr := hfr.app (fr_X4_lowestFree hc6) (by decide) (by decide) (by decide)
      obtain ⟨r7, u8, hc9, hF⟩ := q_bnd_some hF
      have hfr := hfr.app (fr_X10_bandToLay hc9) (by decide) (by decide) (by decide)
      rcases fr_if hF with hF | hF
      · cases hF; exact hfr
      · rcases fr_if hF with hF | hF
        · cases hF; exact hfr
        · obtain ⟨r10, u11, hc12, hF⟩ := q_bnd_some hF
          have hfr := hfr.app (fr_X3_hasRoom hc12) (by decide) (by decide) (by decide)
          rcases fr_if hF with hF | hF
          · cases hF; exact hfr
          · obtain ⟨r13, u14, hc15, hF⟩ := q_bnd_some hF
            have hfr := hfr.app (fr_X8_stream_8 hc15) (by decide) (by decide) (by decide)
            rcases fr_if hF with hF | hF
            · cases hF; exact hfr
            · obtain ⟨r16, u17, hc18, hF⟩ := q_bnd_some hF
              have hfr := hfr.app (fr_X5_takeBand hc18) (by decide) (by decide) (by decide)
              obtain ⟨r19, u20, hc21, hF⟩ := q_bnd_some hF
              have hfr := hfr.app (fr_X4_begin hc21) (by decide) (by decide) (by decide)
              obtain ⟨r22, u23, hc24, hF⟩ := q_bnd_some hF
              have hfr := hfr.app (fr_X4_setHolder hc24) (by decide) (by decide) (by decide)
              obtain ⟨r25, u26, hc27, hF⟩ := q_bnd_some hF
              have hfr := hfr.app (fr_X3_add hc27) (by decide) (by decide) (by decide)
              cases hF; exact hfr
  · cases hF; exact hfr
abbrev wi_X10_lay : List Nat := [7, 8, 9, 10, 11, 12, 13, 14, 15, 16, 17, 18, 19, 20, 21, 22, 23, 24, 32]
abbrev wa_X10_lay : List Nat := [0, 1, 2, 3, 4, 5, 6]
abbrev wj_X10_lay : List Nat := [0, 1, 2, 3]
set_option maxHeartbeats 4000000 in
set_option maxRecDepth 100000 in
theorem fr_X10_lay {L : Nat → Nat} {N : Nat} {o1 : Int32} {o2 : Int64} {u0 σ0 : q_St} {r0 : Int32} (hF : fX10_lay L N o1 o2 u0 = some (r0, σ0)) : Fr wi_X10_lay wa_X10_lay wj_X10_lay u0 σ0 := by
  have hB23 : ∀ (y0 : Int32) (u : q_St), Fr wi_X10_lay wa_X10_lay wj_X10_lay u0 u → fX10_lay_b23 L N y0 u = some (r0, σ0) → Fr wi_X10_lay wa_X10_lay wj_X10_lay u0 σ0 := by
    intro y0 u hfr hF
    unfold fX10_lay_b23 at hF
    obtain ⟨u4, hfr, hF⟩ := fr_si hfr hF (by decide)
    cases hF; exact hfr
  unfold fX10_lay at hF
  have hfr := Fr.rf wi_X10_lay wa_X10_lay wj_X10_lay u0
  obtain ⟨r1, u2, hc3, hF⟩ := q_bnd_some hF
  have hfr := hfr.app (fr_X6_commitOver hc3) (by decide) (by decide) (by decide)
  rcases fr_if hF with hF | hF
  · exact hB23 (-99) u2 hfr hF
  · obtain ⟨r5, u6, hc7, hF⟩ := q_bnd_some hF
    have hfr := hfr.app (fr_X10_enterLaid hc7) (by decide) (by decide) (by decide)
    exact hB23 r5 u6 hfr hF
abbrev wi_X4_setLength : List Nat := [13, 22]
abbrev wa_X4_setLength : List Nat := [5]
abbrev wj_X4_setLength : List Nat := [2]
set_option maxHeartbeats 4000000 in
set_option maxRecDepth 100000 in
theorem fr_X4_setLength {L : Nat → Nat} {N : Nat} {o1 : Int32} {o2 : Int32} {u0 σ0 : q_St} {r0 : Unit} (hF : fX4_setLength L N o1 o2 u0 = some (r0, σ0)) : Fr wi_X4_setLength wa_X4_setLength wj_X4_setLength u0 σ0 := by
  unfold fX4_setLength at hF
  have hfr := Fr.rf wi_X4_setLength wa_X4_setLength wj_X4_setLength u0
  obtain ⟨r1, u2, hc3, hF⟩ := q_bnd_some hF
  have hfr := hfr.app (fr_X6_word hc3) (by decide) (by decide) (by decide)
  obtain ⟨v4, hF⟩ := fr_nm hF
  obtain ⟨r5, u6, hc7, hF⟩ := q_bnd_some hF
  have hfr := hfr.app (fr_X6_setWord hc7) (by decide) (by decide) (by decide)
  cases hF; exact hfr
abbrev wi_X6_setOctet : List Nat := [13, 22]
abbrev wa_X6_setOctet : List Nat := [5]
abbrev wj_X6_setOctet : List Nat := [2]
set_option maxHeartbeats 4000000 in
set_option maxRecDepth 100000 in
theorem fr_X6_setOctet {L : Nat → Nat} {N : Nat} {o1 : Int32} {o2 : Int32} {o3 : Int32} {u0 σ0 : q_St} {r0 : Unit} (hF : fX6_setOctet L N o1 o2 o3 u0 = some (r0, σ0)) : Fr wi_X6_setOctet wa_X6_setOctet wj_X6_setOctet u0 σ0 := by
  unfold fX6_setOctet at hF
  have hfr := Fr.rf wi_X6_setOctet wa_X6_setOctet wj_X6_setOctet u0
  obtain ⟨v1, hF⟩ := fr_nm hF
  obtain ⟨r2, u3, hc4, hF⟩ := q_bnd_some hF
  have hfr := hfr.app (fr_X6_word hc4) (by decide) (by decide) (by decide)
  obtain ⟨v5, hF⟩ := fr_nm hF
  obtain ⟨r6, u7, hc8, hF⟩ := q_bnd_some hF
  have hfr := hfr.app (fr_X6_setWord hc8) (by decide) (by decide) (by decide)
  cases hF; exact hfr
abbrev wi_X4_setText_8 : List Nat := [13, 22]
abbrev wa_X4_setText_8 : List Nat := [5]
abbrev wj_X4_setText_8 : List Nat := [2]
set_option maxHeartbeats 4000000 in
set_option maxRecDepth 100000 in
theorem fr_X4_setText_8 {L : Nat → Nat} {N : Nat} {o1 : Int32} {u0 σ0 : q_St} {r0 : Unit} (hF : fX4_setText_8 L N o1 u0 = some (r0, σ0)) : Fr wi_X4_setText_8 wa_X4_setText_8 wj_X4_setText_8 u0 σ0 := by
  have hB13 : ∀ (n : Nat) (x1 : Int32) (x3 : Int32) (x4 : Int32) (u : q_St), Fr wi_X4_setText_8 wa_X4_setText_8 wj_X4_setText_8 u0 u → q_lp (fX4_setText_8_b13 L N) (fun _ _ _ _ => none) n x1 x3 x4 u = some (r0, σ0) → Fr wi_X4_setText_8 wa_X4_setText_8 wj_X4_setText_8 u0 σ0 := by
    intro n
    induction n with
    | zero => intro x1 x3 x4 u hfr hF; exact absurd (show (none : Option (Unit × q_St)) = some _ from hF) (fun h => nomatch h)
    | succ n hi13 =>
      intro x1 x3 x4 u hfr hF
      obtain ⟨ih13, hih⟩ : ∃ q, q = q_lp (fX4_setText_8_b13 L N) (fun _ _ _ _ => none) n := ⟨_, rfl⟩
      rw [← hih] at hi13
      have hF : fX4_setText_8_b13 L N (q_lp (fX4_setText_8_b13 L N) (fun _ _ _ _ => none) n) x1 x3 x4 u = some (r0, σ0) := hF
      rw [← hih] at hF
      clear hih
      unfold fX4_setText_8_b13 at hF
      rcases fr_if hF with hF | hF
      · obtain ⟨r2, u3, hc4, hF⟩ := q_bnd_some hF
        have hfr := hfr.app (fr_X4_setLength hc4) (by decide) (by decide) (by decide)
        cases hF; exact hfr
      · obtain ⟨r5, u6, hc7, hF⟩ := q_bnd_some hF
        have hfr := hfr.app (fr_X7_byteOf_8 hc7) (by decide) (by decide) (by decide)
        obtain ⟨r8, u9, hc10, hF⟩ := q_bnd_some hF
        have hfr := hfr.app (fr_X6_setOctet hc10) (by decide) (by decide) (by decide)
        obtain ⟨v11, hF⟩ := fr_nm hF
        exact hi13 x1 x3 v11 u9 hfr hF
  unfold fX4_setText_8 at hF
  have hfr := Fr.rf wi_X4_setText_8 wa_X4_setText_8 wj_X4_setText_8 u0
  obtain ⟨v1, hF⟩ := fr_nm hF
  exact hB13 N o1 v1 0 u0 hfr hF
abbrev wi_X10_point : List Nat := [7, 8, 9, 10, 11, 12, 13, 14, 15, 16, 17, 18, 19, 21, 22, 23, 24, 32]
abbrev wa_X10_point : List Nat := [0, 1, 2, 3, 4, 5, 6]
abbrev wj_X10_point : List Nat := [0, 2, 3]
set_option maxHeartbeats 4000000 in
set_option maxRecDepth 100000 in
theorem fr_X10_point {L : Nat → Nat} {N : Nat} {o1 : Int32} {o2 : Int64} {u0 σ0 : q_St} {r0 : Int32} (hF : fX10_point L N o1 o2 u0 = some (r0, σ0)) : Fr wi_X10_point wa_X10_point wj_X10_point u0 σ0 := by
  have hB45 : ∀ (x4 : Int32) (u : q_St), Fr wi_X10_point wa_X10_point wj_X10_point u0 u → fX10_point_b45 L N x4 u = some (r0, σ0) → Fr wi_X10_point wa_X10_point wj_X10_point u0 σ0 := by
    intro x4 u hfr hF
    unfold fX10_point_b45 at hF
    obtain ⟨u4, hfr, hF⟩ := fr_si hfr hF (by decide)
    cases hF; exact hfr
  have hB25 : ∀ (y0 : Int32) (u : q_St), Fr wi_X10_point wa_X10_point wj_X10_point u0 u → fX10_point_b25 L N y0 u = some (r0, σ0) → Fr wi_X10_point wa_X10_point wj_X10_point u0 σ0 := by
    intro y0 u hfr hF
    unfold fX10_point_b25 at hF
    rcases fr_if hF with hF | hF
    · exact hB45 y0 u hfr hF
    · obtain ⟨r5, u6, hc7, hF⟩ := q_bnd_some hF
      have hfr := hfr.app (fr_X4_setText_8 hc7) (by decide) (by decide) (by decide)
      exact hB45 y0 u6 hfr hF
  unfold fX10_point at hF
  have hfr := Fr.rf wi_X10_point wa_X10_point wj_X10_point u0
  obtain ⟨r1, u2, hc3, hF⟩ := q_bnd_some hF
  have hfr := hfr.app (fr_X6_commitOver hc3) (by decide) (by decide) (by decide)
  rcases fr_if hF with hF | hF
  · exact hB25 (-99) u2 hfr hF
  · obtain ⟨r8, u9, hc10, hF⟩ := q_bnd_some hF
    have hfr := hfr.app (fr_X10_enter hc10) (by decide) (by decide) (by decide)
    exact hB25 r8 u9 hfr hF
abbrev wi_X4_hasLinks : List Nat := [13]
abbrev wa_X4_hasLinks : List Nat := []
abbrev wj_X4_hasLinks : List Nat := []
set_option maxHeartbeats 4000000 in
set_option maxRecDepth 100000 in
theorem fr_X4_hasLinks {L : Nat → Nat} {N : Nat} {o1 : Int32} {u0 σ0 : q_St} {r0 : Int32} (hF : fX4_hasLinks L N o1 u0 = some (r0, σ0)) : Fr wi_X4_hasLinks wa_X4_hasLinks wj_X4_hasLinks u0 σ0 := by
  have hB16 : ∀ (u : q_St), Fr wi_X4_hasLinks wa_X4_hasLinks wj_X4_hasLinks u0 u → fX4_hasLinks_b16 L N u = some (r0, σ0) → Fr wi_X4_hasLinks wa_X4_hasLinks wj_X4_hasLinks u0 σ0 := by
    intro u hfr hF
    unfold fX4_hasLinks_b16 at hF
    cases hF; exact hfr
  unfold fX4_hasLinks at hF
  have hfr := Fr.rf wi_X4_hasLinks wa_X4_hasLinks wj_X4_hasLinks u0
  obtain ⟨r1, u2, hc3, hF⟩ := q_bnd_some hF
  have hfr := hfr.app (fr_X4_kindOf hc3) (by decide) (by decide) (by decide)
  rcases fr_if hF with hF | hF
  · exact hB16 u2 hfr hF
  · rcases fr_if hF with hF | hF
    · exact hB16 u2 hfr hF
    · cases hF; exact hfr
abbrev wi_X4_linksOf : List Nat := [13]
abbrev wa_X4_linksOf : List Nat := []
abbrev wj_X4_linksOf : List Nat := []
set_option maxHeartbeats 4000000 in
set_option maxRecDepth 100000 in
theorem fr_X4_linksOf {L : Nat → Nat} {N : Nat} {o1 : Int32} {u0 σ0 : q_St} {r0 : Int32} (hF : fX4_linksOf L N o1 u0 = some (r0, σ0)) : Fr wi_X4_linksOf wa_X4_linksOf wj_X4_linksOf u0 σ0 := by
  unfold fX4_linksOf at hF
  have hfr := Fr.rf wi_X4_linksOf wa_X4_linksOf wj_X4_linksOf u0
  obtain ⟨r1, u2, hc3, hF⟩ := q_bnd_some hF
  have hfr := hfr.app (fr_X6_octet hc3) (by decide) (by decide) (by decide)
  cases hF; exact hfr
abbrev wi_X4_setLinks : List Nat := [13, 22]
abbrev wa_X4_setLinks : List Nat := [5]
abbrev wj_X4_setLinks : List Nat := [2]
set_option maxHeartbeats 4000000 in
set_option maxRecDepth 100000 in
theorem fr_X4_setLinks {L : Nat → Nat} {N : Nat} {o1 : Int32} {o2 : Int32} {u0 σ0 : q_St} {r0 : Unit} (hF : fX4_setLinks L N o1 o2 u0 = some (r0, σ0)) : Fr wi_X4_setLinks wa_X4_setLinks wj_X4_setLinks u0 σ0 := by
  unfold fX4_setLinks at hF
  have hfr := Fr.rf wi_X4_setLinks wa_X4_setLinks wj_X4_setLinks u0
  obtain ⟨r1, u2, hc3, hF⟩ := q_bnd_some hF
  have hfr := hfr.app (fr_X6_setOctet hc3) (by decide) (by decide) (by decide)
  cases hF; exact hfr
abbrev wi_X10_link : List Nat := [7, 8, 9, 10, 11, 12, 13, 14, 15, 16, 17, 18, 19, 21, 22, 23, 24]
abbrev wa_X10_link : List Nat := [0, 1, 2, 3, 4, 5, 6]
abbrev wj_X10_link : List Nat := [0, 2, 3]
set_option maxHeartbeats 4000000 in
set_option maxRecDepth 100000 in
theorem fr_X10_link {L : Nat → Nat} {N : Nat} {o1 : Int32} {o2 : Int64} {o4 : Int32} {u0 σ0 : q_St} {r0 : Int32} (hF : fX10_link L N o1 o2 o4 u0 = some (r0, σ0)) : Fr wi_X10_link wa_X10_link wj_X10_link u0 σ0 := by
  unfold fX10_link at hF
  have hfr := Fr.rf wi_X10_link wa_X10_link wj_X10_link u0
  obtain ⟨r1, u2, hc3, hF⟩ := q_bnd_some hF
  have hfr := hfr.app (fr_X6_commitOver hc3) (by decide) (by decide) (by decide)
  rcases fr_if hF with hF | hF
  · cases hF; exact hfr
  · obtain ⟨r4, u5, hc6, hF⟩ := q_bnd_some hF
    have hfr := hfr.app (fr_X10_refusalToGoBy hc6) (by decide) (by decide) (by decide)
    rcases fr_if hF with hF | hF
    · obtain ⟨r7, u8, hc9, hF⟩ := q_bnd_some hF
      have hfr := hfr.app (fr_X4_hasLinks hc9) (by decide) (by decide) (by decide)
      rcases fr_if hF with hF | hF
      · cases hF; exact hfr
      · obtain ⟨r10, u11, hc12, hF⟩ := q_bnd_some hF
        have hfr := hfr.app (fr_X3_seek hc12) (by decide) (by decide) (by decide)
        rcases fr_if hF with hF | hF
        · obtain ⟨r13, u14, hc15, hF⟩ := q_bnd_some hF
          have hfr := hfr.app (fr_X4_linksOf hc15) (by decide) (by decide) (by decide)
          obtain ⟨v16, hF⟩ := fr_nm hF
          rcases fr_if hF with hF | hF
          · obtain ⟨r17, u18, hc19, hF⟩ := q_bnd_some hF
            have hfr := hfr.app (fr_X3_hasRoom hc19) (by decide) (by decide) (by decide)
            rcases fr_if hF with hF | hF
            · cases hF; exact hfr
            · obtain ⟨r20, u21, hc22, hF⟩ := q_bnd_some hF
              have hfr := hfr.app (fr_X4_setLinks hc22) (by decide) (by decide) (by decide)
              obtain ⟨r23, u24, hc25, hF⟩ := q_bnd_some hF
              have hfr := hfr.app (fr_X3_add hc25) (by decide) (by decide) (by decide)
              cases hF; exact hfr
          · cases hF; exact hfr
        · cases hF; exact hfr
    · cases hF; exact hfr
abbrev wi_X4_lengthOf : List Nat := [13]
abbrev wa_X4_lengthOf : List Nat := []
abbrev wj_X4_lengthOf : List Nat := []
set_option maxHeartbeats 4000000 in
set_option maxRecDepth 100000 in
theorem fr_X4_lengthOf {L : Nat → Nat} {N : Nat} {o1 : Int32} {u0 σ0 : q_St} {r0 : Int32} (hF : fX4_lengthOf L N o1 u0 = some (r0, σ0)) : Fr wi_X4_lengthOf wa_X4_lengthOf wj_X4_lengthOf u0 σ0 := by
  unfold fX4_lengthOf at hF
  have hfr := Fr.rf wi_X4_lengthOf wa_X4_lengthOf wj_X4_lengthOf u0
  obtain ⟨r1, u2, hc3, hF⟩ := q_bnd_some hF
  have hfr := hfr.app (fr_X6_word hc3) (by decide) (by decide) (by decide)
  cases hF; exact hfr
abbrev wi_X0_byteCount : List Nat := [13]
abbrev wa_X0_byteCount : List Nat := []
abbrev wj_X0_byteCount : List Nat := []
set_option maxHeartbeats 4000000 in
set_option maxRecDepth 100000 in
theorem fr_X0_byteCount {L : Nat → Nat} {N : Nat} {o1 : Int32} {u0 σ0 : q_St} {r0 : Int32} (hF : fX0_byteCount L N o1 u0 = some (r0, σ0)) : Fr wi_X0_byteCount wa_X0_byteCount wj_X0_byteCount u0 σ0 := by
  unfold fX0_byteCount at hF
  have hfr := Fr.rf wi_X0_byteCount wa_X0_byteCount wj_X0_byteCount u0
  obtain ⟨r1, u2, hc3, hF⟩ := q_bnd_some hF
  have hfr := hfr.app (fr_X4_kindOf hc3) (by decide) (by decide) (by decide)
  rcases fr_if hF with hF | hF
  · cases hF; exact hfr
  · obtain ⟨r4, u5, hc6, hF⟩ := q_bnd_some hF
    have hfr := hfr.app (fr_X4_lengthOf hc6) (by decide) (by decide) (by decide)
    cases hF; exact hfr
abbrev wi_X0_takeTold : List Nat := [13, 22]
abbrev wa_X0_takeTold : List Nat := [5]
abbrev wj_X0_takeTold : List Nat := [2]
set_option maxHeartbeats 4000000 in
set_option maxRecDepth 100000 in
theorem fr_X0_takeTold {L : Nat → Nat} {N : Nat} {o1 : Int32} {o2 : Int32} {u0 σ0 : q_St} {r0 : Int32} (hF : fX0_takeTold L N o1 o2 u0 = some (r0, σ0)) : Fr wi_X0_takeTold wa_X0_takeTold wj_X0_takeTold u0 σ0 := by
  unfold fX0_takeTold at hF
  have hfr := Fr.rf wi_X0_takeTold wa_X0_takeTold wj_X0_takeTold u0
  obtain ⟨r1, u2, hc3, hF⟩ := q_bnd_some hF
  have hfr := hfr.app (fr_X6_half hc3) (by decide) (by decide) (by decide)
  rcases fr_if hF with hF | hF
  · obtain ⟨r4, u5, hc6, hF⟩ := q_bnd_some hF
    have hfr := hfr.app (fr_X5_takeBlank hc6) (by decide) (by decide) (by decide)
    obtain ⟨r7, u8, hc9, hF⟩ := q_bnd_some hF
    have hfr := hfr.app (fr_X6_setHalf hc9) (by decide) (by decide) (by decide)
    cases hF; exact hfr
  · cases hF; exact hfr
abbrev wi_X0_takePiece : List Nat := [13, 22]
abbrev wa_X0_takePiece : List Nat := [5]
abbrev wj_X0_takePiece : List Nat := [2]
set_option maxHeartbeats 4000000 in
set_option maxRecDepth 100000 in
theorem fr_X0_takePiece {L : Nat → Nat} {N : Nat} {o1 : Int32} {o2 : Int32} {u0 σ0 : q_St} {r0 : Int32} (hF : fX0_takePiece L N o1 o2 u0 = some (r0, σ0)) : Fr wi_X0_takePiece wa_X0_takePiece wj_X0_takePiece u0 σ0 := by
  unfold fX0_takePiece at hF
  have hfr := Fr.rf wi_X0_takePiece wa_X0_takePiece wj_X0_takePiece u0
  obtain ⟨r1, u2, hc3, hF⟩ := q_bnd_some hF
  have hfr := hfr.app (fr_X4_sectorOf hc3) (by decide) (by decide) (by decide)
  rcases fr_if hF with hF | hF
  · rcases fr_if hF with hF | hF
    · obtain ⟨v4, hF⟩ := fr_nm hF
      obtain ⟨r5, u6, hc7, hF⟩ := q_bnd_some hF
      have hfr := hfr.app (fr_X0_takeTold hc7) (by decide) (by decide) (by decide)
      obtain ⟨r8, u9, hc10, hF⟩ := q_bnd_some hF
      have hfr := hfr.app (fr_X0_takeTold hc10) (by decide) (by decide) (by decide)
      obtain ⟨r11, u12, hc13, hF⟩ := q_bnd_some hF
      have hfr := hfr.app (fr_X0_takeTold hc13) (by decide) (by decide) (by decide)
      cases hF; exact hfr
    · obtain ⟨r14, u15, hc16, hF⟩ := q_bnd_some hF
      have hfr := hfr.app (fr_X0_takeTold hc16) (by decide) (by decide) (by decide)
      obtain ⟨r17, u18, hc19, hF⟩ := q_bnd_some hF
      have hfr := hfr.app (fr_X0_takeTold hc19) (by decide) (by decide) (by decide)
      cases hF; exact hfr
  · obtain ⟨r20, u21, hc22, hF⟩ := q_bnd_some hF
    have hfr := hfr.app (fr_X0_takeTold hc22) (by decide) (by decide) (by decide)
    cases hF; exact hfr
abbrev wi_X4_holderOf : List Nat := [13]
abbrev wa_X4_holderOf : List Nat := []
abbrev wj_X4_holderOf : List Nat := []
set_option maxHeartbeats 4000000 in
set_option maxRecDepth 100000 in
theorem fr_X4_holderOf {L : Nat → Nat} {N : Nat} {o1 : Int32} {u0 σ0 : q_St} {r0 : Int32} (hF : fX4_holderOf L N o1 u0 = some (r0, σ0)) : Fr wi_X4_holderOf wa_X4_holderOf wj_X4_holderOf u0 σ0 := by
  unfold fX4_holderOf at hF
  have hfr := Fr.rf wi_X4_holderOf wa_X4_holderOf wj_X4_holderOf u0
  obtain ⟨r1, u2, hc3, hF⟩ := q_bnd_some hF
  have hfr := hfr.app (fr_X6_half hc3) (by decide) (by decide) (by decide)
  cases hF; exact hfr
abbrev wi_X0_laidBlock : List Nat := [13]
abbrev wa_X0_laidBlock : List Nat := []
abbrev wj_X0_laidBlock : List Nat := []
set_option maxHeartbeats 4000000 in
set_option maxRecDepth 100000 in
theorem fr_X0_laidBlock {L : Nat → Nat} {N : Nat} {o1 : Int32} {o2 : Int32} {u0 σ0 : q_St} {r0 : Int32} (hF : fX0_laidBlock L N o1 o2 u0 = some (r0, σ0)) : Fr wi_X0_laidBlock wa_X0_laidBlock wj_X0_laidBlock u0 σ0 := by
  have hB12 : ∀ (u : q_St), Fr wi_X0_laidBlock wa_X0_laidBlock wj_X0_laidBlock u0 u → fX0_laidBlock_b12 L N u = some (r0, σ0) → Fr wi_X0_laidBlock wa_X0_laidBlock wj_X0_laidBlock u0 σ0 := by
    intro u hfr hF
    unfold fX0_laidBlock_b12 at hF
    cases hF; exact hfr
  unfold fX0_laidBlock at hF
  have hfr := Fr.rf wi_X0_laidBlock wa_X0_laidBlock wj_X0_laidBlock u0
  rcases fr_if hF with hF | hF
  · exact hB12 u0 hfr hF
  · rcases fr_if hF with hF | hF
    · obtain ⟨r1, u2, hc3, hF⟩ := q_bnd_some hF
      have hfr := hfr.app (fr_X4_holderOf hc3) (by decide) (by decide) (by decide)
      cases hF; exact hfr
    · exact hB12 u0 hfr hF
abbrev wi_X0_write_8 : List Nat := [13, 22]
abbrev wa_X0_write_8 : List Nat := [5]
abbrev wj_X0_write_8 : List Nat := [2]
set_option maxHeartbeats 4000000 in
set_option maxRecDepth 100000 in
theorem fr_X0_write_8 {L : Nat → Nat} {N : Nat} {o1 : Int32} {o2 : Int32} {u0 σ0 : q_St} {r0 : Unit} (hF : fX0_write_8 L N o1 o2 u0 = some (r0, σ0)) : Fr wi_X0_write_8 wa_X0_write_8 wj_X0_write_8 u0 σ0 := by
  have hB86 : ∀ (ih25 : Int32 → Int32 → Int32 → Int32 → Int32 → q_St → Option (Unit × q_St)) (hi25 : ∀ (x1 : Int32) (x2 : Int32) (x4 : Int32) (x5 : Int32) (x6 : Int32) (u : q_St), Fr wi_X0_write_8 wa_X0_write_8 wj_X0_write_8 u0 u → ih25 x1 x2 x4 x5 x6 u = some (r0, σ0) → Fr wi_X0_write_8 wa_X0_write_8 wj_X0_write_8 u0 σ0), ∀ (x1 : Int32) (x2 : Int32) (x4 : Int32) (x5 : Int32) (x6 : Int32) (x7 : Int32) (u : q_St), Fr wi_X0_write_8 wa_X0_write_8 wj_X0_write_8 u0 u → fX0_write_8_b86 L N ih25 x1 x2 x4 x5 x6 x7 u = some (r0, σ0) → Fr wi_X0_write_8 wa_X0_write_8 wj_X0_write_8 u0 σ0 := by
    intro ih25 hi25 x1 x2 x4 x5 x6 x7 u hfr hF
    unfold fX0_write_8_b86 at hF
    obtain ⟨r15, u16, hc17, hF⟩ := q_bnd_some hF
    have hfr := hfr.app (fr_X7_byteOf_8 hc17) (by decide) (by decide) (by decide)
    obtain ⟨r18, u19, hc20, hF⟩ := q_bnd_some hF
    have hfr := hfr.app (fr_X6_setOctet hc20) (by decide) (by decide) (by decide)
    obtain ⟨v21, hF⟩ := fr_nm hF
    exact hi25 x1 x2 x4 x5 v21 u19 hfr hF
  have hB84 : ∀ (ih25 : Int32 → Int32 → Int32 → Int32 → Int32 → q_St → Option (Unit × q_St)) (hi25 : ∀ (x1 : Int32) (x2 : Int32) (x4 : Int32) (x5 : Int32) (x6 : Int32) (u : q_St), Fr wi_X0_write_8 wa_X0_write_8 wj_X0_write_8 u0 u → ih25 x1 x2 x4 x5 x6 u = some (r0, σ0) → Fr wi_X0_write_8 wa_X0_write_8 wj_X0_write_8 u0 σ0), ∀ (x1 : Int32) (x2 : Int32) (x4 : Int32) (x6 : Int32) (x7 : Int32) (y0 : Int32) (u : q_St), Fr wi_X0_write_8 wa_X0_write_8 wj_X0_write_8 u0 u → fX0_write_8_b84 L N ih25 x1 x2 x4 x6 x7 y0 u = some (r0, σ0) → Fr wi_X0_write_8 wa_X0_write_8 wj_X0_write_8 u0 σ0 := by
    intro ih25 hi25 x1 x2 x4 x6 x7 y0 u hfr hF
    unfold fX0_write_8_b84 at hF
    exact hB86 ih25 hi25 x1 x2 x4 y0 x6 x7 u hfr hF
  have hB53 : ∀ (ih25 : Int32 → Int32 → Int32 → Int32 → Int32 → q_St → Option (Unit × q_St)) (hi25 : ∀ (x1 : Int32) (x2 : Int32) (x4 : Int32) (x5 : Int32) (x6 : Int32) (u : q_St), Fr wi_X0_write_8 wa_X0_write_8 wj_X0_write_8 u0 u → ih25 x1 x2 x4 x5 x6 u = some (r0, σ0) → Fr wi_X0_write_8 wa_X0_write_8 wj_X0_write_8 u0 σ0), ∀ (x1 : Int32) (x2 : Int32) (x4 : Int32) (x6 : Int32) (x7 : Int32) (u : q_St), Fr wi_X0_write_8 wa_X0_write_8 wj_X0_write_8 u0 u → fX0_write_8_b53 L N ih25 x1 x2 x4 x6 x7 u = some (r0, σ0) → Fr wi_X0_write_8 wa_X0_write_8 wj_X0_write_8 u0 σ0 := by
    intro ih25 hi25 x1 x2 x4 x6 x7 u hfr hF
    unfold fX0_write_8_b53 at hF
    obtain ⟨v11, hF⟩ := fr_nm hF
    rcases fr_if hF with hF | hF
    · obtain ⟨r12, u13, hc14, hF⟩ := q_bnd_some hF
      have hfr := hfr.app (fr_X0_takePiece hc14) (by decide) (by decide) (by decide)
      exact hB84 ih25 hi25 x1 x2 x4 x6 x7 r12 u13 hfr hF
    · obtain ⟨r22, u23, hc24, hF⟩ := q_bnd_some hF
      have hfr := hfr.app (fr_X0_laidBlock hc24) (by decide) (by decide) (by decide)
      exact hB84 ih25 hi25 x1 x2 x4 x6 x7 r22 u23 hfr hF
  have hB25 : ∀ (n : Nat) (x1 : Int32) (x2 : Int32) (x4 : Int32) (x5 : Int32) (x6 : Int32) (u : q_St), Fr wi_X0_write_8 wa_X0_write_8 wj_X0_write_8 u0 u → q_lp (fX0_write_8_b25 L N) (fun _ _ _ _ _ _ => none) n x1 x2 x4 x5 x6 u = some (r0, σ0) → Fr wi_X0_write_8 wa_X0_write_8 wj_X0_write_8 u0 σ0 := by
    intro n
    induction n with
    | zero => intro x1 x2 x4 x5 x6 u hfr hF; exact absurd (show (none : Option (Unit × q_St)) = some _ from hF) (fun h => nomatch h)
    | succ n hi25 =>
      intro x1 x2 x4 x5 x6 u hfr hF
      obtain ⟨ih25, hih⟩ : ∃ q, q = q_lp (fX0_write_8_b25 L N) (fun _ _ _ _ _ _ => none) n := ⟨_, rfl⟩
      rw [← hih] at hi25
      have hF : fX0_write_8_b25 L N (q_lp (fX0_write_8_b25 L N) (fun _ _ _ _ _ _ => none) n) x1 x2 x4 x5 x6 u = some (r0, σ0) := hF
      rw [← hih] at hF
      clear hih
      unfold fX0_write_8_b25 at hF
      rcases fr_if hF with hF | hF
      · rcases fr_if hF with hF | hF
        · obtain ⟨r4, u5, hc6, hF⟩ := q_bnd_some hF
          have hfr := hfr.app (fr_X4_lengthOf hc6) (by decide) (by decide) (by decide)
          rcases fr_if hF with hF | hF
          · cases hF; exact hfr
          · obtain ⟨r7, u8, hc9, hF⟩ := q_bnd_some hF
            have hfr := hfr.app (fr_X4_setLength hc9) (by decide) (by decide) (by decide)
            cases hF; exact hfr
        · cases hF; exact hfr
      · obtain ⟨v10, hF⟩ := fr_nm hF
        rcases fr_if hF with hF | hF
        · exact hB53 ih25 hi25 x1 x2 x4 x6 v10 u hfr hF
        · rcases fr_if hF with hF | hF
          · exact hB53 ih25 hi25 x1 x2 x4 x6 v10 u hfr hF
          · exact hB86 ih25 hi25 x1 x2 x4 x5 x6 v10 u hfr hF
  have hB17 : ∀ (x1 : Int32) (x2 : Int32) (y0 : Int32) (u : q_St), Fr wi_X0_write_8 wa_X0_write_8 wj_X0_write_8 u0 u → fX0_write_8_b17 L N x1 x2 y0 u = some (r0, σ0) → Fr wi_X0_write_8 wa_X0_write_8 wj_X0_write_8 u0 σ0 := by
    intro x1 x2 y0 u hfr hF
    unfold fX0_write_8_b17 at hF
    exact hB25 N x1 x2 y0 0 0 u hfr hF
  unfold fX0_write_8 at hF
  have hfr := Fr.rf wi_X0_write_8 wa_X0_write_8 wj_X0_write_8 u0
  obtain ⟨r1, u2, hc3, hF⟩ := q_bnd_some hF
  have hfr := hfr.app (fr_X4_kindOf hc3) (by decide) (by decide) (by decide)
  rcases fr_if hF with hF | hF
  · exact hB17 o1 o2 1 u2 hfr hF
  · exact hB17 o1 o2 0 u2 hfr hF
abbrev wi_X0_farIndex : List Nat := [13]
abbrev wa_X0_farIndex : List Nat := []
abbrev wj_X0_farIndex : List Nat := []
set_option maxHeartbeats 4000000 in
set_option maxRecDepth 100000 in
theorem fr_X0_farIndex {L : Nat → Nat} {N : Nat} {o1 : Int32} {o2 : Int32} {u0 σ0 : q_St} {r0 : Int32} (hF : fX0_farIndex L N o1 o2 u0 = some (r0, σ0)) : Fr wi_X0_farIndex wa_X0_farIndex wj_X0_farIndex u0 σ0 := by
  have hB10 : ∀ (u : q_St), Fr wi_X0_farIndex wa_X0_farIndex wj_X0_farIndex u0 u → fX0_farIndex_b10 L N u = some (r0, σ0) → Fr wi_X0_farIndex wa_X0_farIndex wj_X0_farIndex u0 σ0 := by
    intro u hfr hF
    unfold fX0_farIndex_b10 at hF
    cases hF; exact hfr
  unfold fX0_farIndex at hF
  have hfr := Fr.rf wi_X0_farIndex wa_X0_farIndex wj_X0_farIndex u0
  rcases fr_if hF with hF | hF
  · exact hB10 u0 hfr hF
  · rcases fr_if hF with hF | hF
    · obtain ⟨r1, u2, hc3, hF⟩ := q_bnd_some hF
      have hfr := hfr.app (fr_X4_sectorOf hc3) (by decide) (by decide) (by decide)
      obtain ⟨r4, u5, hc6, hF⟩ := q_bnd_some hF
      have hfr := hfr.app (fr_X6_half hc6) (by decide) (by decide) (by decide)
      obtain ⟨r7, u8, hc9, hF⟩ := q_bnd_some hF
      have hfr := hfr.app (fr_X6_half hc9) (by decide) (by decide) (by decide)
      cases hF; exact hfr
    · exact hB10 u0 hfr hF
abbrev wi_X0_pieceBlock : List Nat := [13]
abbrev wa_X0_pieceBlock : List Nat := []
abbrev wj_X0_pieceBlock : List Nat := []
set_option maxHeartbeats 4000000 in
set_option maxRecDepth 100000 in
theorem fr_X0_pieceBlock {L : Nat → Nat} {N : Nat} {o1 : Int32} {o2 : Int32} {u0 σ0 : q_St} {r0 : Int32} (hF : fX0_pieceBlock L N o1 o2 u0 = some (r0, σ0)) : Fr wi_X0_pieceBlock wa_X0_pieceBlock wj_X0_pieceBlock u0 σ0 := by
  unfold fX0_pieceBlock at hF
  have hfr := Fr.rf wi_X0_pieceBlock wa_X0_pieceBlock wj_X0_pieceBlock u0
  obtain ⟨r1, u2, hc3, hF⟩ := q_bnd_some hF
  have hfr := hfr.app (fr_X4_sectorOf hc3) (by decide) (by decide) (by decide)
  rcases fr_if hF with hF | hF
  · cases hF; exact hfr
  · rcases fr_if hF with hF | hF
    · rcases fr_if hF with hF | hF
      · rcases fr_if hF with hF | hF
        · obtain ⟨v4, hF⟩ := fr_nm hF
          obtain ⟨r5, u6, hc7, hF⟩ := q_bnd_some hF
          have hfr := hfr.app (fr_X0_farIndex hc7) (by decide) (by decide) (by decide)
          obtain ⟨r8, u9, hc10, hF⟩ := q_bnd_some hF
          have hfr := hfr.app (fr_X6_half hc10) (by decide) (by decide) (by decide)
          cases hF; exact hfr
        · obtain ⟨r11, u12, hc13, hF⟩ := q_bnd_some hF
          have hfr := hfr.app (fr_X6_half hc13) (by decide) (by decide) (by decide)
          obtain ⟨r14, u15, hc16, hF⟩ := q_bnd_some hF
          have hfr := hfr.app (fr_X6_half hc16) (by decide) (by decide) (by decide)
          cases hF; exact hfr
      · obtain ⟨r17, u18, hc19, hF⟩ := q_bnd_some hF
        have hfr := hfr.app (fr_X6_half hc19) (by decide) (by decide) (by decide)
        cases hF; exact hfr
    · cases hF; exact hfr
abbrev wi_X0_blocksWanted : List Nat := [13]
abbrev wa_X0_blocksWanted : List Nat := []
abbrev wj_X0_blocksWanted : List Nat := []
set_option maxHeartbeats 4000000 in
set_option maxRecDepth 100000 in
theorem fr_X0_blocksWanted {L : Nat → Nat} {N : Nat} {o1 : Int32} {o2 : Int32} {o3 : Int32} {u0 σ0 : q_St} {r0 : Int32} (hF : fX0_blocksWanted L N o1 o2 o3 u0 = some (r0, σ0)) : Fr wi_X0_blocksWanted wa_X0_blocksWanted wj_X0_blocksWanted u0 σ0 := by
  have hB172 : ∀ (ih125 : Int32 → Int32 → Int32 → Int32 → Int32 → q_St → Option (Int32 × q_St)) (hi125 : ∀ (x1 : Int32) (x5 : Int32) (x6 : Int32) (x7 : Int32) (x8 : Int32) (u : q_St), Fr wi_X0_blocksWanted wa_X0_blocksWanted wj_X0_blocksWanted u0 u → ih125 x1 x5 x6 x7 x8 u = some (r0, σ0) → Fr wi_X0_blocksWanted wa_X0_blocksWanted wj_X0_blocksWanted u0 σ0), ∀ (x1 : Int32) (x5 : Int32) (x6 : Int32) (x7 : Int32) (x8 : Int32) (u : q_St), Fr wi_X0_blocksWanted wa_X0_blocksWanted wj_X0_blocksWanted u0 u → fX0_blocksWanted_b172 L N ih125 x1 x5 x6 x7 x8 u = some (r0, σ0) → Fr wi_X0_blocksWanted wa_X0_blocksWanted wj_X0_blocksWanted u0 σ0 := by
    intro ih125 hi125 x1 x5 x6 x7 x8 u hfr hF
    unfold fX0_blocksWanted_b172 at hF
    obtain ⟨v7, hF⟩ := fr_nm hF
    exact hi125 x1 x5 x6 x7 v7 u hfr hF
  have hB125 : ∀ (n : Nat) (x1 : Int32) (x5 : Int32) (x6 : Int32) (x7 : Int32) (x8 : Int32) (u : q_St), Fr wi_X0_blocksWanted wa_X0_blocksWanted wj_X0_blocksWanted u0 u → q_lp (fX0_blocksWanted_b125 L N) (fun _ _ _ _ _ _ => none) n x1 x5 x6 x7 x8 u = some (r0, σ0) → Fr wi_X0_blocksWanted wa_X0_blocksWanted wj_X0_blocksWanted u0 σ0 := by
    intro n
    induction n with
    | zero => intro x1 x5 x6 x7 x8 u hfr hF; exact absurd (show (none : Option (Int32 × q_St)) = some _ from hF) (fun h => nomatch h)
    | succ n hi125 =>
      intro x1 x5 x6 x7 x8 u hfr hF
      obtain ⟨ih125, hih⟩ : ∃ q, q = q_lp (fX0_blocksWanted_b125 L N) (fun _ _ _ _ _ _ => none) n := ⟨_, rfl⟩
      rw [← hih] at hi125
      have hF : fX0_blocksWanted_b125 L N (q_lp (fX0_blocksWanted_b125 L N) (fun _ _ _ _ _ _ => none) n) x1 x5 x6 x7 x8 u = some (r0, σ0) := hF
      rw [← hih] at hF
      clear hih
      unfold fX0_blocksWanted_b125 at hF
      rcases fr_if hF with hF | hF
      · cases hF; exact hfr
      · obtain ⟨v6, hF⟩ := fr_nm hF
        rcases fr_if hF with hF | hF
        · exact hB172 ih125 hi125 x1 x5 x6 x7 x8 u hfr hF
        · rcases fr_if hF with hF | hF
          · exact hB172 ih125 hi125 x1 x5 x6 x7 x8 u hfr hF
          · obtain ⟨r8, u9, hc10, hF⟩ := q_bnd_some hF
            have hfr := hfr.app (fr_X0_farIndex hc10) (by decide) (by decide) (by decide)
            rcases fr_if hF with hF | hF
            · obtain ⟨v11, hF⟩ := fr_nm hF
              exact hB172 ih125 hi125 x1 x5 x6 v11 x8 u9 hfr hF
            · exact hB172 ih125 hi125 x1 x5 x6 x7 x8 u9 hfr hF
  have hB122 : ∀ (x1 : Int32) (x5 : Int32) (x6 : Int32) (x7 : Int32) (u : q_St), Fr wi_X0_blocksWanted wa_X0_blocksWanted wj_X0_blocksWanted u0 u → fX0_blocksWanted_b122 L N x1 x5 x6 x7 u = some (r0, σ0) → Fr wi_X0_blocksWanted wa_X0_blocksWanted wj_X0_blocksWanted u0 σ0 := by
    intro x1 x5 x6 x7 u hfr hF
    unfold fX0_blocksWanted_b122 at hF
    exact hB125 N x1 x5 x6 x7 0 u hfr hF
  have hB98 : ∀ (x1 : Int32) (x4 : Int32) (x5 : Int32) (x6 : Int32) (x7 : Int32) (u : q_St), Fr wi_X0_blocksWanted wa_X0_blocksWanted wj_X0_blocksWanted u0 u → fX0_blocksWanted_b98 L N x1 x4 x5 x6 x7 u = some (r0, σ0) → Fr wi_X0_blocksWanted wa_X0_blocksWanted wj_X0_blocksWanted u0 σ0 := by
    intro x1 x4 x5 x6 x7 u hfr hF
    unfold fX0_blocksWanted_b98 at hF
    rcases fr_if hF with hF | hF
    · exact hB122 x1 x5 x6 x7 u hfr hF
    · obtain ⟨r12, u13, hc14, hF⟩ := q_bnd_some hF
      have hfr := hfr.app (fr_X6_half hc14) (by decide) (by decide) (by decide)
      rcases fr_if hF with hF | hF
      · obtain ⟨v15, hF⟩ := fr_nm hF
        exact hB122 x1 x5 x6 v15 u13 hfr hF
      · exact hB122 x1 x5 x6 x7 u13 hfr hF
  have hB67 : ∀ (x1 : Int32) (x4 : Int32) (x5 : Int32) (x6 : Int32) (x7 : Int32) (u : q_St), Fr wi_X0_blocksWanted wa_X0_blocksWanted wj_X0_blocksWanted u0 u → fX0_blocksWanted_b67 L N x1 x4 x5 x6 x7 u = some (r0, σ0) → Fr wi_X0_blocksWanted wa_X0_blocksWanted wj_X0_blocksWanted u0 σ0 := by
    intro x1 x4 x5 x6 x7 u hfr hF
    unfold fX0_blocksWanted_b67 at hF
    rcases fr_if hF with hF | hF
    · exact hB98 x1 x4 x5 x6 x7 u hfr hF
    · rcases fr_if hF with hF | hF
      · exact hB98 x1 x4 x5 x6 x7 u hfr hF
      · obtain ⟨r16, u17, hc18, hF⟩ := q_bnd_some hF
        have hfr := hfr.app (fr_X6_half hc18) (by decide) (by decide) (by decide)
        rcases fr_if hF with hF | hF
        · obtain ⟨v19, hF⟩ := fr_nm hF
          exact hB98 x1 x4 x5 x6 v19 u17 hfr hF
        · exact hB98 x1 x4 x5 x6 x7 u17 hfr hF
  have hB61 : ∀ (ih33 : Int32 → Int32 → Int32 → Int32 → Int32 → Int32 → q_St → Option (Int32 × q_St)) (hi33 : ∀ (x1 : Int32) (x4 : Int32) (x5 : Int32) (x6 : Int32) (x7 : Int32) (x8 : Int32) (u : q_St), Fr wi_X0_blocksWanted wa_X0_blocksWanted wj_X0_blocksWanted u0 u → ih33 x1 x4 x5 x6 x7 x8 u = some (r0, σ0) → Fr wi_X0_blocksWanted wa_X0_blocksWanted wj_X0_blocksWanted u0 σ0), ∀ (x1 : Int32) (x4 : Int32) (x5 : Int32) (x6 : Int32) (x7 : Int32) (x8 : Int32) (u : q_St), Fr wi_X0_blocksWanted wa_X0_blocksWanted wj_X0_blocksWanted u0 u → fX0_blocksWanted_b61 L N ih33 x1 x4 x5 x6 x7 x8 u = some (r0, σ0) → Fr wi_X0_blocksWanted wa_X0_blocksWanted wj_X0_blocksWanted u0 σ0 := by
    intro ih33 hi33 x1 x4 x5 x6 x7 x8 u hfr hF
    unfold fX0_blocksWanted_b61 at hF
    obtain ⟨v23, hF⟩ := fr_nm hF
    exact hi33 x1 x4 x5 x6 x7 v23 u hfr hF
  have hB33 : ∀ (n : Nat) (x1 : Int32) (x4 : Int32) (x5 : Int32) (x6 : Int32) (x7 : Int32) (x8 : Int32) (u : q_St), Fr wi_X0_blocksWanted wa_X0_blocksWanted wj_X0_blocksWanted u0 u → q_lp (fX0_blocksWanted_b33 L N) (fun _ _ _ _ _ _ _ => none) n x1 x4 x5 x6 x7 x8 u = some (r0, σ0) → Fr wi_X0_blocksWanted wa_X0_blocksWanted wj_X0_blocksWanted u0 σ0 := by
    intro n
    induction n with
    | zero => intro x1 x4 x5 x6 x7 x8 u hfr hF; exact absurd (show (none : Option (Int32 × q_St)) = some _ from hF) (fun h => nomatch h)
    | succ n hi33 =>
      intro x1 x4 x5 x6 x7 x8 u hfr hF
      obtain ⟨ih33, hih⟩ : ∃ q, q = q_lp (fX0_blocksWanted_b33 L N) (fun _ _ _ _ _ _ _ => none) n := ⟨_, rfl⟩
      rw [← hih] at hi33
      have hF : fX0_blocksWanted_b33 L N (q_lp (fX0_blocksWanted_b33 L N) (fun _ _ _ _ _ _ _ => none) n) x1 x4 x5 x6 x7 x8 u = some (r0, σ0) := hF
      rw [← hih] at hF
      clear hih
      unfold fX0_blocksWanted_b33 at hF
      rcases fr_if hF with hF | hF
      · exact hB67 x1 x4 x5 x6 x7 u hfr hF
      · rcases fr_if hF with hF | hF
        · exact hB67 x1 x4 x5 x6 x7 u hfr hF
        · obtain ⟨r20, u21, hc22, hF⟩ := q_bnd_some hF
          have hfr := hfr.app (fr_X0_pieceBlock hc22) (by decide) (by decide) (by decide)
          rcases fr_if hF with hF | hF
          · obtain ⟨v24, hF⟩ := fr_nm hF
            exact hB61 ih33 hi33 x1 x4 x5 x6 v24 x8 u21 hfr hF
          · exact hB61 ih33 hi33 x1 x4 x5 x6 x7 x8 u21 hfr hF
  unfold fX0_blocksWanted at hF
  have hfr := Fr.rf wi_X0_blocksWanted wa_X0_blocksWanted wj_X0_blocksWanted u0
  obtain ⟨r1, u2, hc3, hF⟩ := q_bnd_some hF
  have hfr := hfr.app (fr_X4_sectorOf hc3) (by decide) (by decide) (by decide)
  obtain ⟨v4, hF⟩ := fr_nm hF
  obtain ⟨v5, hF⟩ := fr_nm hF
  exact hB33 N o1 r1 v4 v5 0 v4 u2 hfr hF
abbrev wi_X10_writeTape : List Nat := [13, 22]
abbrev wa_X10_writeTape : List Nat := [5]
abbrev wj_X10_writeTape : List Nat := [2]
set_option maxHeartbeats 4000000 in
set_option maxRecDepth 100000 in
theorem fr_X10_writeTape {L : Nat → Nat} {N : Nat} {o1 : Int32} {o2 : Int32} {u0 σ0 : q_St} {r0 : Int32} (hF : fX10_writeTape L N o1 o2 u0 = some (r0, σ0)) : Fr wi_X10_writeTape wa_X10_writeTape wj_X10_writeTape u0 σ0 := by
  have hB129 : ∀ (x1 : Int32) (x2 : Int32) (u : q_St), Fr wi_X10_writeTape wa_X10_writeTape wj_X10_writeTape u0 u → fX10_writeTape_b129 L N x1 x2 u = some (r0, σ0) → Fr wi_X10_writeTape wa_X10_writeTape wj_X10_writeTape u0 σ0 := by
    intro x1 x2 u hfr hF
    unfold fX10_writeTape_b129 at hF
    obtain ⟨r10, u11, hc12, hF⟩ := q_bnd_some hF
    have hfr := hfr.app (fr_X0_write_8 hc12) (by decide) (by decide) (by decide)
    cases hF; exact hfr
  have hB60 : ∀ (x1 : Int32) (x2 : Int32) (x3 : Int32) (y0 : Int32) (u : q_St), Fr wi_X10_writeTape wa_X10_writeTape wj_X10_writeTape u0 u → fX10_writeTape_b60 L N x1 x2 x3 y0 u = some (r0, σ0) → Fr wi_X10_writeTape wa_X10_writeTape wj_X10_writeTape u0 σ0 := by
    intro x1 x2 x3 y0 u hfr hF
    unfold fX10_writeTape_b60 at hF
    rcases fr_if hF with hF | hF
    · cases hF; exact hfr
    · rcases fr_if hF with hF | hF
      · rcases fr_if hF with hF | hF
        · cases hF; exact hfr
        · rcases fr_if hF with hF | hF
          · obtain ⟨r13, u14, hc15, hF⟩ := q_bnd_some hF
            have hfr := hfr.app (fr_X0_blocksWanted hc15) (by decide) (by decide) (by decide)
            obtain ⟨r16, u17, hc18, hF⟩ := q_bnd_some hF
            have hfr := hfr.app (fr_X5_freeCount hc18) (by decide) (by decide) (by decide)
            rcases fr_if hF with hF | hF
            · exact hB129 x1 x2 u17 hfr hF
            · cases hF; exact hfr
          · exact hB129 x1 x2 u hfr hF
      · cases hF; exact hfr
  have hB22 : ∀ (x1 : Int32) (x2 : Int32) (x3 : Int32) (u : q_St), Fr wi_X10_writeTape wa_X10_writeTape wj_X10_writeTape u0 u → fX10_writeTape_b22 L N x1 x2 x3 u = some (r0, σ0) → Fr wi_X10_writeTape wa_X10_writeTape wj_X10_writeTape u0 σ0 := by
    intro x1 x2 x3 u hfr hF
    unfold fX10_writeTape_b22 at hF
    obtain ⟨r4, u5, hc6, hF⟩ := q_bnd_some hF
    have hfr := hfr.app (fr_X4_may hc6) (by decide) (by decide) (by decide)
    rcases fr_if hF with hF | hF
    · cases hF; exact hfr
    · rcases fr_if hF with hF | hF
      · exact hB60 x1 x2 x3 68352 u5 hfr hF
      · obtain ⟨r7, u8, hc9, hF⟩ := q_bnd_some hF
        have hfr := hfr.app (fr_X0_byteCount hc9) (by decide) (by decide) (by decide)
        exact hB60 x1 x2 x3 r7 u8 hfr hF
  unfold fX10_writeTape at hF
  have hfr := Fr.rf wi_X10_writeTape wa_X10_writeTape wj_X10_writeTape u0
  obtain ⟨r1, u2, hc3, hF⟩ := q_bnd_some hF
  have hfr := hfr.app (fr_X4_kindOf hc3) (by decide) (by decide) (by decide)
  rcases fr_if hF with hF | hF
  · exact hB22 o1 o2 r1 u2 hfr hF
  · rcases fr_if hF with hF | hF
    · exact hB22 o1 o2 r1 u2 hfr hF
    · cases hF; exact hfr
abbrev wi_X10_put : List Nat := [7, 8, 9, 10, 11, 12, 13, 14, 15, 16, 17, 18, 19, 21, 22, 23, 24, 32]
abbrev wa_X10_put : List Nat := [0, 1, 2, 3, 4, 5, 6]
abbrev wj_X10_put : List Nat := [0, 2, 3]
set_option maxHeartbeats 4000000 in
set_option maxRecDepth 100000 in
theorem fr_X10_put {L : Nat → Nat} {N : Nat} {o1 : Int32} {o2 : Int32} {u0 σ0 : q_St} {r0 : Int32} (hF : fX10_put L N o1 o2 u0 = some (r0, σ0)) : Fr wi_X10_put wa_X10_put wj_X10_put u0 σ0 := by
  have hB23 : ∀ (y0 : Int32) (u : q_St), Fr wi_X10_put wa_X10_put wj_X10_put u0 u → fX10_put_b23 L N y0 u = some (r0, σ0) → Fr wi_X10_put wa_X10_put wj_X10_put u0 σ0 := by
    intro y0 u hfr hF
    unfold fX10_put_b23 at hF
    obtain ⟨u4, hfr, hF⟩ := fr_si hfr hF (by decide)
    cases hF; exact hfr
  unfold fX10_put at hF
  have hfr := Fr.rf wi_X10_put wa_X10_put wj_X10_put u0
  obtain ⟨r1, u2, hc3, hF⟩ := q_bnd_some hF
  have hfr := hfr.app (fr_X6_commitOver hc3) (by decide) (by decide) (by decide)
  rcases fr_if hF with hF | hF
  · exact hB23 (-99) u2 hfr hF
  · obtain ⟨r5, u6, hc7, hF⟩ := q_bnd_some hF
    have hfr := hfr.app (fr_X10_writeTape hc7) (by decide) (by decide) (by decide)
    exact hB23 r5 u6 hfr hF
abbrev wi_X6_forget : List Nat := [22]
abbrev wa_X6_forget : List Nat := [5]
abbrev wj_X6_forget : List Nat := []
set_option maxHeartbeats 4000000 in
set_option maxRecDepth 100000 in
theorem fr_X6_forget {L : Nat → Nat} {N : Nat} {o1 : Int32} {u0 σ0 : q_St} {r0 : Unit} (hF : fX6_forget L N o1 u0 = some (r0, σ0)) : Fr wi_X6_forget wa_X6_forget wj_X6_forget u0 σ0 := by
  unfold fX6_forget at hF
  have hfr := Fr.rf wi_X6_forget wa_X6_forget wj_X6_forget u0
  rcases fr_if hF with hF | hF
  · cases hF; exact hfr
  · rcases fr_if hF with hF | hF
    · cases hF; exact hfr
    · obtain ⟨v1, hF⟩ := fr_rd hF
      rcases fr_if hF with hF | hF
      · cases hF; exact hfr
      · obtain ⟨u2, hfr, hF⟩ := fr_wa hfr hF (by decide)
        obtain ⟨u3, hfr, hF⟩ := fr_si hfr hF (by decide)
        cases hF; exact hfr
abbrev wi_X5_giveBack : List Nat := [13, 22]
abbrev wa_X5_giveBack : List Nat := [5]
abbrev wj_X5_giveBack : List Nat := [2]
set_option maxHeartbeats 4000000 in
set_option maxRecDepth 100000 in
theorem fr_X5_giveBack {L : Nat → Nat} {N : Nat} {o1 : Int32} {u0 σ0 : q_St} {r0 : Unit} (hF : fX5_giveBack L N o1 u0 = some (r0, σ0)) : Fr wi_X5_giveBack wa_X5_giveBack wj_X5_giveBack u0 σ0 := by
  unfold fX5_giveBack at hF
  have hfr := Fr.rf wi_X5_giveBack wa_X5_giveBack wj_X5_giveBack u0
  obtain ⟨v1, hF⟩ := fr_nm hF
  obtain ⟨r2, u3, hc4, hF⟩ := q_bnd_some hF
  have hfr := hfr.app (fr_X6_word hc4) (by decide) (by decide) (by decide)
  obtain ⟨r5, u6, hc7, hF⟩ := q_bnd_some hF
  have hfr := hfr.app (fr_X6_setWord hc7) (by decide) (by decide) (by decide)
  obtain ⟨r8, u9, hc10, hF⟩ := q_bnd_some hF
  have hfr := hfr.app (fr_X6_forget hc10) (by decide) (by decide) (by decide)
  cases hF; exact hfr
abbrev wi_X0_giveBackTold : List Nat := [13, 22]
abbrev wa_X0_giveBackTold : List Nat := [5]
abbrev wj_X0_giveBackTold : List Nat := [2]
set_option maxHeartbeats 4000000 in
set_option maxRecDepth 100000 in
theorem fr_X0_giveBackTold {L : Nat → Nat} {N : Nat} {o1 : Int32} {o2 : Int32} {o3 : Int32} {u0 σ0 : q_St} {r0 : Int32} (hF : fX0_giveBackTold L N o1 o2 o3 u0 = some (r0, σ0)) : Fr wi_X0_giveBackTold wa_X0_giveBackTold wj_X0_giveBackTold u0 σ0 := by
  have hB52 : ∀ (ih6 : Int32 → Int32 → Int32 → Int32 → q_St → Option (Int32 × q_St)) (hi6 : ∀ (x1 : Int32) (x3 : Int32) (x4 : Int32) (x5 : Int32) (u : q_St), Fr wi_X0_giveBackTold wa_X0_giveBackTold wj_X0_giveBackTold u0 u → ih6 x1 x3 x4 x5 u = some (r0, σ0) → Fr wi_X0_giveBackTold wa_X0_giveBackTold wj_X0_giveBackTold u0 σ0), ∀ (x1 : Int32) (x3 : Int32) (x4 : Int32) (x5 : Int32) (u : q_St), Fr wi_X0_giveBackTold wa_X0_giveBackTold wj_X0_giveBackTold u0 u → fX0_giveBackTold_b52 L N ih6 x1 x3 x4 x5 u = some (r0, σ0) → Fr wi_X0_giveBackTold wa_X0_giveBackTold wj_X0_giveBackTold u0 σ0 := by
    intro ih6 hi6 x1 x3 x4 x5 u hfr hF
    unfold fX0_giveBackTold_b52 at hF
    obtain ⟨v4, hF⟩ := fr_nm hF
    exact hi6 x1 x3 x4 v4 u hfr hF
  have hB6 : ∀ (n : Nat) (x1 : Int32) (x3 : Int32) (x4 : Int32) (x5 : Int32) (u : q_St), Fr wi_X0_giveBackTold wa_X0_giveBackTold wj_X0_giveBackTold u0 u → q_lp (fX0_giveBackTold_b6 L N) (fun _ _ _ _ _ => none) n x1 x3 x4 x5 u = some (r0, σ0) → Fr wi_X0_giveBackTold wa_X0_giveBackTold wj_X0_giveBackTold u0 σ0 := by
    intro n
    induction n with
    | zero => intro x1 x3 x4 x5 u hfr hF; exact absurd (show (none : Option (Int32 × q_St)) = some _ from hF) (fun h => nomatch h)
    | succ n hi6 =>
      intro x1 x3 x4 x5 u hfr hF
      obtain ⟨ih6, hih⟩ : ∃ q, q = q_lp (fX0_giveBackTold_b6 L N) (fun _ _ _ _ _ => none) n := ⟨_, rfl⟩
      rw [← hih] at hi6
      have hF : fX0_giveBackTold_b6 L N (q_lp (fX0_giveBackTold_b6 L N) (fun _ _ _ _ _ => none) n) x1 x3 x4 x5 u = some (r0, σ0) := hF
      rw [← hih] at hF
      clear hih
      unfold fX0_giveBackTold_b6 at hF
      rcases fr_if hF with hF | hF
      · cases hF; exact hfr
      · obtain ⟨r1, u2, hc3, hF⟩ := q_bnd_some hF
        have hfr := hfr.app (fr_X6_half hc3) (by decide) (by decide) (by decide)
        rcases fr_if hF with hF | hF
        · exact hB52 ih6 hi6 x1 x3 x4 x5 u2 hfr hF
        · obtain ⟨r5, u6, hc7, hF⟩ := q_bnd_some hF
          have hfr := hfr.app (fr_X5_giveBack hc7) (by decide) (by decide) (by decide)
          obtain ⟨r8, u9, hc10, hF⟩ := q_bnd_some hF
          have hfr := hfr.app (fr_X6_setHalf hc10) (by decide) (by decide) (by decide)
          obtain ⟨v11, hF⟩ := fr_nm hF
          exact hB52 ih6 hi6 x1 x3 v11 x5 u9 hfr hF
  unfold fX0_giveBackTold at hF
  have hfr := Fr.rf wi_X0_giveBackTold wa_X0_giveBackTold wj_X0_giveBackTold u0
  exact hB6 N o1 o3 0 o2 u0 hfr hF
abbrev wi_X0_giveBackEmpty : List Nat := [13, 22]
abbrev wa_X0_giveBackEmpty : List Nat := [5]
abbrev wj_X0_giveBackEmpty : List Nat := [2]
set_option maxHeartbeats 4000000 in
set_option maxRecDepth 100000 in
theorem fr_X0_giveBackEmpty {L : Nat → Nat} {N : Nat} {o1 : Int32} {o2 : Int32} {u0 σ0 : q_St} {r0 : Int32} (hF : fX0_giveBackEmpty L N o1 o2 u0 = some (r0, σ0)) : Fr wi_X0_giveBackEmpty wa_X0_giveBackEmpty wj_X0_giveBackEmpty u0 σ0 := by
  have hB13 : ∀ (n : Nat) (x1 : Int32) (x2 : Int32) (x3 : Int32) (x4 : Int32) (u : q_St), Fr wi_X0_giveBackEmpty wa_X0_giveBackEmpty wj_X0_giveBackEmpty u0 u → q_lp (fX0_giveBackEmpty_b13 L N) (fun _ _ _ _ _ => none) n x1 x2 x3 x4 u = some (r0, σ0) → Fr wi_X0_giveBackEmpty wa_X0_giveBackEmpty wj_X0_giveBackEmpty u0 σ0 := by
    intro n
    induction n with
    | zero => intro x1 x2 x3 x4 u hfr hF; exact absurd (show (none : Option (Int32 × q_St)) = some _ from hF) (fun h => nomatch h)
    | succ n hi13 =>
      intro x1 x2 x3 x4 u hfr hF
      obtain ⟨ih13, hih⟩ : ∃ q, q = q_lp (fX0_giveBackEmpty_b13 L N) (fun _ _ _ _ _ => none) n := ⟨_, rfl⟩
      rw [← hih] at hi13
      have hF : fX0_giveBackEmpty_b13 L N (q_lp (fX0_giveBackEmpty_b13 L N) (fun _ _ _ _ _ => none) n) x1 x2 x3 x4 u = some (r0, σ0) := hF
      rw [← hih] at hF
      clear hih
      unfold fX0_giveBackEmpty_b13 at hF
      rcases fr_if hF with hF | hF
      · obtain ⟨r4, u5, hc6, hF⟩ := q_bnd_some hF
        have hfr := hfr.app (fr_X5_giveBack hc6) (by decide) (by decide) (by decide)
        obtain ⟨r7, u8, hc9, hF⟩ := q_bnd_some hF
        have hfr := hfr.app (fr_X6_setHalf hc9) (by decide) (by decide) (by decide)
        cases hF; exact hfr
      · obtain ⟨r10, u11, hc12, hF⟩ := q_bnd_some hF
        have hfr := hfr.app (fr_X6_word hc12) (by decide) (by decide) (by decide)
        rcases fr_if hF with hF | hF
        · obtain ⟨v13, hF⟩ := fr_nm hF
          exact hi13 x1 x2 x3 v13 u11 hfr hF
        · cases hF; exact hfr
  unfold fX0_giveBackEmpty at hF
  have hfr := Fr.rf wi_X0_giveBackEmpty wa_X0_giveBackEmpty wj_X0_giveBackEmpty u0
  obtain ⟨r1, u2, hc3, hF⟩ := q_bnd_some hF
  have hfr := hfr.app (fr_X6_half hc3) (by decide) (by decide) (by decide)
  exact hB13 N o1 o2 r1 0 u2 hfr hF
abbrev wi_X0_giveBackIndex : List Nat := [13, 22]
abbrev wa_X0_giveBackIndex : List Nat := [5]
abbrev wj_X0_giveBackIndex : List Nat := [2]
set_option maxHeartbeats 4000000 in
set_option maxRecDepth 100000 in
theorem fr_X0_giveBackIndex {L : Nat → Nat} {N : Nat} {o1 : Int32} {o2 : Int32} {o3 : Int32} {u0 σ0 : q_St} {r0 : Int32} (hF : fX0_giveBackIndex L N o1 o2 o3 u0 = some (r0, σ0)) : Fr wi_X0_giveBackIndex wa_X0_giveBackIndex wj_X0_giveBackIndex u0 σ0 := by
  unfold fX0_giveBackIndex at hF
  have hfr := Fr.rf wi_X0_giveBackIndex wa_X0_giveBackIndex wj_X0_giveBackIndex u0
  obtain ⟨r1, u2, hc3, hF⟩ := q_bnd_some hF
  have hfr := hfr.app (fr_X6_half hc3) (by decide) (by decide) (by decide)
  rcases fr_if hF with hF | hF
  · cases hF; exact hfr
  · rcases fr_if hF with hF | hF
    · obtain ⟨r4, u5, hc6, hF⟩ := q_bnd_some hF
      have hfr := hfr.app (fr_X0_giveBackTold hc6) (by decide) (by decide) (by decide)
      obtain ⟨r7, u8, hc9, hF⟩ := q_bnd_some hF
      have hfr := hfr.app (fr_X0_giveBackEmpty hc9) (by decide) (by decide) (by decide)
      cases hF; exact hfr
    · cases hF; exact hfr
abbrev wi_X0_giveBackFrom : List Nat := [13, 22]
abbrev wa_X0_giveBackFrom : List Nat := [5]
abbrev wj_X0_giveBackFrom : List Nat := [2]
set_option maxHeartbeats 4000000 in
set_option maxRecDepth 100000 in
theorem fr_X0_giveBackFrom {L : Nat → Nat} {N : Nat} {o1 : Int32} {o2 : Int32} {u0 σ0 : q_St} {r0 : Int32} (hF : fX0_giveBackFrom L N o1 o2 u0 = some (r0, σ0)) : Fr wi_X0_giveBackFrom wa_X0_giveBackFrom wj_X0_giveBackFrom u0 σ0 := by
  have hB65 : ∀ (n : Nat) (x2 : Int32) (x3 : Int32) (x4 : Int32) (x5 : Int32) (x6 : Int32) (u : q_St), Fr wi_X0_giveBackFrom wa_X0_giveBackFrom wj_X0_giveBackFrom u0 u → q_lp (fX0_giveBackFrom_b65 L N) (fun _ _ _ _ _ _ => none) n x2 x3 x4 x5 x6 u = some (r0, σ0) → Fr wi_X0_giveBackFrom wa_X0_giveBackFrom wj_X0_giveBackFrom u0 σ0 := by
    intro n
    induction n with
    | zero => intro x2 x3 x4 x5 x6 u hfr hF; exact absurd (show (none : Option (Int32 × q_St)) = some _ from hF) (fun h => nomatch h)
    | succ n hi65 =>
      intro x2 x3 x4 x5 x6 u hfr hF
      obtain ⟨ih65, hih⟩ : ∃ q, q = q_lp (fX0_giveBackFrom_b65 L N) (fun _ _ _ _ _ _ => none) n := ⟨_, rfl⟩
      rw [← hih] at hi65
      have hF : fX0_giveBackFrom_b65 L N (q_lp (fX0_giveBackFrom_b65 L N) (fun _ _ _ _ _ _ => none) n) x2 x3 x4 x5 x6 u = some (r0, σ0) := hF
      rw [← hih] at hF
      clear hih
      unfold fX0_giveBackFrom_b65 at hF
      rcases fr_if hF with hF | hF
      · obtain ⟨r14, u15, hc16, hF⟩ := q_bnd_some hF
        have hfr := hfr.app (fr_X0_giveBackEmpty hc16) (by decide) (by decide) (by decide)
        cases hF; exact hfr
      · obtain ⟨r17, u18, hc19, hF⟩ := q_bnd_some hF
        have hfr := hfr.app (fr_X0_giveBackIndex hc19) (by decide) (by decide) (by decide)
        obtain ⟨v20, hF⟩ := fr_nm hF
        obtain ⟨v21, hF⟩ := fr_nm hF
        exact hi65 x2 x3 v20 x5 v21 u18 hfr hF
  unfold fX0_giveBackFrom at hF
  have hfr := Fr.rf wi_X0_giveBackFrom wa_X0_giveBackFrom wj_X0_giveBackFrom u0
  obtain ⟨r1, u2, hc3, hF⟩ := q_bnd_some hF
  have hfr := hfr.app (fr_X4_sectorOf hc3) (by decide) (by decide) (by decide)
  obtain ⟨r4, u5, hc6, hF⟩ := q_bnd_some hF
  have hfr := hfr.app (fr_X0_giveBackTold hc6) (by decide) (by decide) (by decide)
  obtain ⟨r7, u8, hc9, hF⟩ := q_bnd_some hF
  have hfr := hfr.app (fr_X0_giveBackIndex hc9) (by decide) (by decide) (by decide)
  obtain ⟨v10, hF⟩ := fr_nm hF
  obtain ⟨r11, u12, hc13, hF⟩ := q_bnd_some hF
  have hfr := hfr.app (fr_X6_half hc13) (by decide) (by decide) (by decide)
  rcases fr_if hF with hF | hF
  · cases hF; exact hfr
  · exact hB65 N o2 r1 v10 r11 0 u12 hfr hF
abbrev wi_X0_shorten : List Nat := [13, 22]
abbrev wa_X0_shorten : List Nat := [5]
abbrev wj_X0_shorten : List Nat := [2]
set_option maxHeartbeats 4000000 in
set_option maxRecDepth 100000 in
theorem fr_X0_shorten {L : Nat → Nat} {N : Nat} {o1 : Int32} {o2 : Int32} {u0 σ0 : q_St} {r0 : Int32} (hF : fX0_shorten L N o1 o2 u0 = some (r0, σ0)) : Fr wi_X0_shorten wa_X0_shorten wj_X0_shorten u0 σ0 := by
  have hB57 : ∀ (x1 : Int32) (x2 : Int32) (u : q_St), Fr wi_X0_shorten wa_X0_shorten wj_X0_shorten u0 u → fX0_shorten_b57 L N x1 x2 u = some (r0, σ0) → Fr wi_X0_shorten wa_X0_shorten wj_X0_shorten u0 σ0 := by
    intro x1 x2 u hfr hF
    unfold fX0_shorten_b57 at hF
    obtain ⟨r5, u6, hc7, hF⟩ := q_bnd_some hF
    have hfr := hfr.app (fr_X4_setLength hc7) (by decide) (by decide) (by decide)
    obtain ⟨r8, u9, hc10, hF⟩ := q_bnd_some hF
    have hfr := hfr.app (fr_X0_giveBackFrom hc10) (by decide) (by decide) (by decide)
    cases hF; exact hfr
  have hB27 : ∀ (n : Nat) (x1 : Int32) (x2 : Int32) (x4 : Int32) (x5 : Int32) (u : q_St), Fr wi_X0_shorten wa_X0_shorten wj_X0_shorten u0 u → q_lp (fX0_shorten_b27 L N) (fun _ _ _ _ _ => none) n x1 x2 x4 x5 u = some (r0, σ0) → Fr wi_X0_shorten wa_X0_shorten wj_X0_shorten u0 σ0 := by
    intro n
    induction n with
    | zero => intro x1 x2 x4 x5 u hfr hF; exact absurd (show (none : Option (Int32 × q_St)) = some _ from hF) (fun h => nomatch h)
    | succ n hi27 =>
      intro x1 x2 x4 x5 u hfr hF
      obtain ⟨ih27, hih⟩ : ∃ q, q = q_lp (fX0_shorten_b27 L N) (fun _ _ _ _ _ => none) n := ⟨_, rfl⟩
      rw [← hih] at hi27
      have hF : fX0_shorten_b27 L N (q_lp (fX0_shorten_b27 L N) (fun _ _ _ _ _ => none) n) x1 x2 x4 x5 u = some (r0, σ0) := hF
      rw [← hih] at hF
      clear hih
      unfold fX0_shorten_b27 at hF
      rcases fr_if hF with hF | hF
      · exact hB57 x1 x2 u hfr hF
      · rcases fr_if hF with hF | hF
        · exact hB57 x1 x2 u hfr hF
        · obtain ⟨r11, u12, hc13, hF⟩ := q_bnd_some hF
          have hfr := hfr.app (fr_X6_setOctet hc13) (by decide) (by decide) (by decide)
          obtain ⟨v14, hF⟩ := fr_nm hF
          exact hi27 x1 x2 x4 v14 u12 hfr hF
  have hB22 : ∀ (x1 : Int32) (x2 : Int32) (x3 : Int32) (y0 : Int32) (u : q_St), Fr wi_X0_shorten wa_X0_shorten wj_X0_shorten u0 u → fX0_shorten_b22 L N x1 x2 x3 y0 u = some (r0, σ0) → Fr wi_X0_shorten wa_X0_shorten wj_X0_shorten u0 σ0 := by
    intro x1 x2 x3 y0 u hfr hF
    unfold fX0_shorten_b22 at hF
    exact hB27 N x1 x2 y0 x3 u hfr hF
  unfold fX0_shorten at hF
  have hfr := Fr.rf wi_X0_shorten wa_X0_shorten wj_X0_shorten u0
  obtain ⟨v1, hF⟩ := fr_nm hF
  rcases fr_if hF with hF | hF
  · exact hB22 o1 o2 v1 0 u0 hfr hF
  · obtain ⟨r2, u3, hc4, hF⟩ := q_bnd_some hF
    have hfr := hfr.app (fr_X0_pieceBlock hc4) (by decide) (by decide) (by decide)
    exact hB22 o1 o2 v1 r2 u3 hfr hF
abbrev wi_X10_cut : List Nat := [7, 8, 9, 10, 11, 12, 13, 14, 15, 16, 17, 18, 19, 21, 22, 23, 24]
abbrev wa_X10_cut : List Nat := [0, 1, 2, 3, 4, 5, 6]
abbrev wj_X10_cut : List Nat := [0, 2, 3]
set_option maxHeartbeats 4000000 in
set_option maxRecDepth 100000 in
theorem fr_X10_cut {L : Nat → Nat} {N : Nat} {o1 : Int32} {o2 : Int32} {u0 σ0 : q_St} {r0 : Int32} (hF : fX10_cut L N o1 o2 u0 = some (r0, σ0)) : Fr wi_X10_cut wa_X10_cut wj_X10_cut u0 σ0 := by
  unfold fX10_cut at hF
  have hfr := Fr.rf wi_X10_cut wa_X10_cut wj_X10_cut u0
  obtain ⟨r1, u2, hc3, hF⟩ := q_bnd_some hF
  have hfr := hfr.app (fr_X6_commitOver hc3) (by decide) (by decide) (by decide)
  rcases fr_if hF with hF | hF
  · cases hF; exact hfr
  · obtain ⟨r4, u5, hc6, hF⟩ := q_bnd_some hF
    have hfr := hfr.app (fr_X4_kindOf hc6) (by decide) (by decide) (by decide)
    rcases fr_if hF with hF | hF
    · obtain ⟨r7, u8, hc9, hF⟩ := q_bnd_some hF
      have hfr := hfr.app (fr_X4_may hc9) (by decide) (by decide) (by decide)
      rcases fr_if hF with hF | hF
      · cases hF; exact hfr
      · obtain ⟨r10, u11, hc12, hF⟩ := q_bnd_some hF
        have hfr := hfr.app (fr_X4_lengthOf hc12) (by decide) (by decide) (by decide)
        rcases fr_if hF with hF | hF
        · cases hF; exact hfr
        · rcases fr_if hF with hF | hF
          · rcases fr_if hF with hF | hF
            · cases hF; exact hfr
            · obtain ⟨r13, u14, hc15, hF⟩ := q_bnd_some hF
              have hfr := hfr.app (fr_X0_shorten hc15) (by decide) (by decide) (by decide)
              cases hF; exact hfr
          · cases hF; exact hfr
    · cases hF; exact hfr
abbrev wi_X3_nodeAt : List Nat := [13]
abbrev wa_X3_nodeAt : List Nat := []
abbrev wj_X3_nodeAt : List Nat := []
set_option maxHeartbeats 4000000 in
set_option maxRecDepth 100000 in
theorem fr_X3_nodeAt {L : Nat → Nat} {N : Nat} {o1 : Int32} {o2 : Int32} {u0 σ0 : q_St} {r0 : Int32} (hF : fX3_nodeAt L N o1 o2 u0 = some (r0, σ0)) : Fr wi_X3_nodeAt wa_X3_nodeAt wj_X3_nodeAt u0 σ0 := by
  unfold fX3_nodeAt at hF
  have hfr := Fr.rf wi_X3_nodeAt wa_X3_nodeAt wj_X3_nodeAt u0
  obtain ⟨r1, u2, hc3, hF⟩ := q_bnd_some hF
  have hfr := hfr.app (fr_X3_blockAt hc3) (by decide) (by decide) (by decide)
  obtain ⟨r4, u5, hc6, hF⟩ := q_bnd_some hF
  have hfr := hfr.app (fr_X6_half hc6) (by decide) (by decide) (by decide)
  cases hF; exact hfr
abbrev wi_X3_takeOut : List Nat := [13, 22]
abbrev wa_X3_takeOut : List Nat := [5]
abbrev wj_X3_takeOut : List Nat := [2]
set_option maxHeartbeats 4000000 in
set_option maxRecDepth 100000 in
theorem fr_X3_takeOut {L : Nat → Nat} {N : Nat} {o1 : Int32} {o2 : Int32} {u0 σ0 : q_St} {r0 : Unit} (hF : fX3_takeOut L N o1 o2 u0 = some (r0, σ0)) : Fr wi_X3_takeOut wa_X3_takeOut wj_X3_takeOut u0 σ0 := by
  unfold fX3_takeOut at hF
  have hfr := Fr.rf wi_X3_takeOut wa_X3_takeOut wj_X3_takeOut u0
  obtain ⟨r1, u2, hc3, hF⟩ := q_bnd_some hF
  have hfr := hfr.app (fr_X3_blockAt hc3) (by decide) (by decide) (by decide)
  obtain ⟨r4, u5, hc6, hF⟩ := q_bnd_some hF
  have hfr := hfr.app (fr_X3_fillSlot hc6) (by decide) (by decide) (by decide)
  cases hF; exact hfr
abbrev wi_X5_giveBackBand : List Nat := [13, 22]
abbrev wa_X5_giveBackBand : List Nat := [5]
abbrev wj_X5_giveBackBand : List Nat := [2]
set_option maxHeartbeats 4000000 in
set_option maxRecDepth 100000 in
theorem fr_X5_giveBackBand {L : Nat → Nat} {N : Nat} {o1 : Int32} {u0 σ0 : q_St} {r0 : Int32} (hF : fX5_giveBackBand L N o1 u0 = some (r0, σ0)) : Fr wi_X5_giveBackBand wa_X5_giveBackBand wj_X5_giveBackBand u0 σ0 := by
  have hB9 : ∀ (n : Nat) (x2 : Int32) (x3 : Int32) (u : q_St), Fr wi_X5_giveBackBand wa_X5_giveBackBand wj_X5_giveBackBand u0 u → q_lp (fX5_giveBackBand_b9 L N) (fun _ _ _ => none) n x2 x3 u = some (r0, σ0) → Fr wi_X5_giveBackBand wa_X5_giveBackBand wj_X5_giveBackBand u0 σ0 := by
    intro n
    induction n with
    | zero => intro x2 x3 u hfr hF; exact absurd (show (none : Option (Int32 × q_St)) = some _ from hF) (fun h => nomatch h)
    | succ n hi9 =>
      intro x2 x3 u hfr hF
      obtain ⟨ih9, hih⟩ : ∃ q, q = q_lp (fX5_giveBackBand_b9 L N) (fun _ _ _ => none) n := ⟨_, rfl⟩
      rw [← hih] at hi9
      have hF : fX5_giveBackBand_b9 L N (q_lp (fX5_giveBackBand_b9 L N) (fun _ _ _ => none) n) x2 x3 u = some (r0, σ0) := hF
      rw [← hih] at hF
      clear hih
      unfold fX5_giveBackBand_b9 at hF
      rcases fr_if hF with hF | hF
      · cases hF; exact hfr
      · obtain ⟨r2, u3, hc4, hF⟩ := q_bnd_some hF
        have hfr := hfr.app (fr_X5_giveBack hc4) (by decide) (by decide) (by decide)
        obtain ⟨v5, hF⟩ := fr_nm hF
        exact hi9 x2 v5 u3 hfr hF
  unfold fX5_giveBackBand at hF
  have hfr := Fr.rf wi_X5_giveBackBand wa_X5_giveBackBand wj_X5_giveBackBand u0
  obtain ⟨v1, hF⟩ := fr_nm hF
  exact hB9 N v1 v1 u0 hfr hF
abbrev wi_X0_dropOne : List Nat := [13, 22]
abbrev wa_X0_dropOne : List Nat := [5]
abbrev wj_X0_dropOne : List Nat := [2]
set_option maxHeartbeats 4000000 in
set_option maxRecDepth 100000 in
theorem fr_X0_dropOne {L : Nat → Nat} {N : Nat} {o1 : Int32} {u0 σ0 : q_St} {r0 : Int32} (hF : fX0_dropOne L N o1 u0 = some (r0, σ0)) : Fr wi_X0_dropOne wa_X0_dropOne wj_X0_dropOne u0 σ0 := by
  have hB106 : ∀ (x4 : Int32) (x5 : Int32) (u : q_St), Fr wi_X0_dropOne wa_X0_dropOne wj_X0_dropOne u0 u → fX0_dropOne_b106 L N x4 x5 u = some (r0, σ0) → Fr wi_X0_dropOne wa_X0_dropOne wj_X0_dropOne u0 σ0 := by
    intro x4 x5 u hfr hF
    unfold fX0_dropOne_b106 at hF
    obtain ⟨r10, u11, hc12, hF⟩ := q_bnd_some hF
    have hfr := hfr.app (fr_X6_clear hc12) (by decide) (by decide) (by decide)
    cases hF; exact hfr
  unfold fX0_dropOne at hF
  have hfr := Fr.rf wi_X0_dropOne wa_X0_dropOne wj_X0_dropOne u0
  obtain ⟨r1, u2, hc3, hF⟩ := q_bnd_some hF
  have hfr := hfr.app (fr_X4_linksOf hc3) (by decide) (by decide) (by decide)
  rcases fr_if hF with hF | hF
  · obtain ⟨r4, u5, hc6, hF⟩ := q_bnd_some hF
    have hfr := hfr.app (fr_X4_kindOf hc6) (by decide) (by decide) (by decide)
    obtain ⟨r7, u8, hc9, hF⟩ := q_bnd_some hF
    have hfr := hfr.app (fr_X4_sectorOf hc9) (by decide) (by decide) (by decide)
    rcases fr_if hF with hF | hF
    · obtain ⟨r22, u23, hc24, hF⟩ := q_bnd_some hF
      have hfr := hfr.app (fr_X0_giveBackFrom hc24) (by decide) (by decide) (by decide)
      exact hB106 r7 r22 u23 hfr hF
    · rcases fr_if hF with hF | hF
      · obtain ⟨r16, u17, hc18, hF⟩ := q_bnd_some hF
        have hfr := hfr.app (fr_X4_holderOf hc18) (by decide) (by decide) (by decide)
        obtain ⟨r19, u20, hc21, hF⟩ := q_bnd_some hF
        have hfr := hfr.app (fr_X5_giveBackBand hc21) (by decide) (by decide) (by decide)
        exact hB106 r7 r19 u20 hfr hF
      · rcases fr_if hF with hF | hF
        · obtain ⟨r13, u14, hc15, hF⟩ := q_bnd_some hF
          have hfr := hfr.app (fr_X0_giveBackTold hc15) (by decide) (by decide) (by decide)
          exact hB106 r7 r13 u14 hfr hF
        · exact hB106 r7 0 u8 hfr hF
  · obtain ⟨r25, u26, hc27, hF⟩ := q_bnd_some hF
    have hfr := hfr.app (fr_X4_setLinks hc27) (by decide) (by decide) (by decide)
    cases hF; exact hfr
abbrev wi_X3_nameAt : List Nat := [13]
abbrev wa_X3_nameAt : List Nat := []
abbrev wj_X3_nameAt : List Nat := []
set_option maxHeartbeats 4000000 in
set_option maxRecDepth 100000 in
theorem fr_X3_nameAt {L : Nat → Nat} {N : Nat} {o1 : Int32} {o2 : Int32} {u0 σ0 : q_St} {r0 : Int64} (hF : fX3_nameAt L N o1 o2 u0 = some (r0, σ0)) : Fr wi_X3_nameAt wa_X3_nameAt wj_X3_nameAt u0 σ0 := by
  unfold fX3_nameAt at hF
  have hfr := Fr.rf wi_X3_nameAt wa_X3_nameAt wj_X3_nameAt u0
  obtain ⟨r1, u2, hc3, hF⟩ := q_bnd_some hF
  have hfr := hfr.app (fr_X3_blockAt hc3) (by decide) (by decide) (by decide)
  rcases fr_if hF with hF | hF
  · cases hF; exact hfr
  · obtain ⟨r4, u5, hc6, hF⟩ := q_bnd_some hF
    have hfr := hfr.app (fr_X6_word hc6) (by decide) (by decide) (by decide)
    cases hF; exact hfr
abbrev wi_X3_nameCount : List Nat := [13]
abbrev wa_X3_nameCount : List Nat := []
abbrev wj_X3_nameCount : List Nat := []
set_option maxHeartbeats 4000000 in
set_option maxRecDepth 100000 in
theorem fr_X3_nameCount {L : Nat → Nat} {N : Nat} {o1 : Int32} {u0 σ0 : q_St} {r0 : Int32} (hF : fX3_nameCount L N o1 u0 = some (r0, σ0)) : Fr wi_X3_nameCount wa_X3_nameCount wj_X3_nameCount u0 σ0 := by
  have hB24 : ∀ (ih4 : Int32 → Int32 → Int32 → q_St → Option (Int32 × q_St)) (hi4 : ∀ (x1 : Int32) (x2 : Int32) (x3 : Int32) (u : q_St), Fr wi_X3_nameCount wa_X3_nameCount wj_X3_nameCount u0 u → ih4 x1 x2 x3 u = some (r0, σ0) → Fr wi_X3_nameCount wa_X3_nameCount wj_X3_nameCount u0 σ0), ∀ (x1 : Int32) (x2 : Int32) (x3 : Int32) (u : q_St), Fr wi_X3_nameCount wa_X3_nameCount wj_X3_nameCount u0 u → fX3_nameCount_b24 L N ih4 x1 x2 x3 u = some (r0, σ0) → Fr wi_X3_nameCount wa_X3_nameCount wj_X3_nameCount u0 σ0 := by
    intro ih4 hi4 x1 x2 x3 u hfr hF
    unfold fX3_nameCount_b24 at hF
    obtain ⟨v4, hF⟩ := fr_nm hF
    exact hi4 x1 x2 v4 u hfr hF
  have hB4 : ∀ (n : Nat) (x1 : Int32) (x2 : Int32) (x3 : Int32) (u : q_St), Fr wi_X3_nameCount wa_X3_nameCount wj_X3_nameCount u0 u → q_lp (fX3_nameCount_b4 L N) (fun _ _ _ _ => none) n x1 x2 x3 u = some (r0, σ0) → Fr wi_X3_nameCount wa_X3_nameCount wj_X3_nameCount u0 σ0 := by
    intro n
    induction n with
    | zero => intro x1 x2 x3 u hfr hF; exact absurd (show (none : Option (Int32 × q_St)) = some _ from hF) (fun h => nomatch h)
    | succ n hi4 =>
      intro x1 x2 x3 u hfr hF
      obtain ⟨ih4, hih⟩ : ∃ q, q = q_lp (fX3_nameCount_b4 L N) (fun _ _ _ _ => none) n := ⟨_, rfl⟩
      rw [← hih] at hi4
      have hF : fX3_nameCount_b4 L N (q_lp (fX3_nameCount_b4 L N) (fun _ _ _ _ => none) n) x1 x2 x3 u = some (r0, σ0) := hF
      rw [← hih] at hF
      clear hih
      unfold fX3_nameCount_b4 at hF
      rcases fr_if hF with hF | hF
      · cases hF; exact hfr
      · obtain ⟨r1, u2, hc3, hF⟩ := q_bnd_some hF
        have hfr := hfr.app (fr_X3_nameAt hc3) (by decide) (by decide) (by decide)
        rcases fr_if hF with hF | hF
        · exact hB24 ih4 hi4 x1 x2 x3 u2 hfr hF
        · obtain ⟨v5, hF⟩ := fr_nm hF
          exact hB24 ih4 hi4 x1 v5 x3 u2 hfr hF
  unfold fX3_nameCount at hF
  have hfr := Fr.rf wi_X3_nameCount wa_X3_nameCount wj_X3_nameCount u0
  exact hB4 N o1 0 0 u0 hfr hF
abbrev wi_X10_drop : List Nat := [7, 8, 9, 10, 11, 12, 13, 14, 15, 16, 17, 18, 19, 21, 22, 23, 24]
abbrev wa_X10_drop : List Nat := [0, 1, 2, 3, 4, 5, 6]
abbrev wj_X10_drop : List Nat := [0, 2, 3]
set_option maxHeartbeats 4000000 in
set_option maxRecDepth 100000 in
theorem fr_X10_drop {L : Nat → Nat} {N : Nat} {o1 : Int32} {o2 : Int64} {u0 σ0 : q_St} {r0 : Int32} (hF : fX10_drop L N o1 o2 u0 = some (r0, σ0)) : Fr wi_X10_drop wa_X10_drop wj_X10_drop u0 σ0 := by
  have hB91 : ∀ (x1 : Int32) (x5 : Int32) (x6 : Int32) (u : q_St), Fr wi_X10_drop wa_X10_drop wj_X10_drop u0 u → fX10_drop_b91 L N x1 x5 x6 u = some (r0, σ0) → Fr wi_X10_drop wa_X10_drop wj_X10_drop u0 σ0 := by
    intro x1 x5 x6 u hfr hF
    unfold fX10_drop_b91 at hF
    obtain ⟨r16, u17, hc18, hF⟩ := q_bnd_some hF
    have hfr := hfr.app (fr_X3_takeOut hc18) (by decide) (by decide) (by decide)
    obtain ⟨r19, u20, hc21, hF⟩ := q_bnd_some hF
    have hfr := hfr.app (fr_X0_dropOne hc21) (by decide) (by decide) (by decide)
    cases hF; exact hfr
  unfold fX10_drop at hF
  have hfr := Fr.rf wi_X10_drop wa_X10_drop wj_X10_drop u0
  obtain ⟨r1, u2, hc3, hF⟩ := q_bnd_some hF
  have hfr := hfr.app (fr_X6_commitOver hc3) (by decide) (by decide) (by decide)
  rcases fr_if hF with hF | hF
  · cases hF; exact hfr
  · obtain ⟨r4, u5, hc6, hF⟩ := q_bnd_some hF
    have hfr := hfr.app (fr_X10_refusalToGoBy hc6) (by decide) (by decide) (by decide)
    rcases fr_if hF with hF | hF
    · obtain ⟨r7, u8, hc9, hF⟩ := q_bnd_some hF
      have hfr := hfr.app (fr_X3_seek hc9) (by decide) (by decide) (by decide)
      rcases fr_if hF with hF | hF
      · cases hF; exact hfr
      · obtain ⟨r10, u11, hc12, hF⟩ := q_bnd_some hF
        have hfr := hfr.app (fr_X3_nodeAt hc12) (by decide) (by decide) (by decide)
        obtain ⟨r13, u14, hc15, hF⟩ := q_bnd_some hF
        have hfr := hfr.app (fr_X4_kindOf hc15) (by decide) (by decide) (by decide)
        rcases fr_if hF with hF | hF
        · obtain ⟨r22, u23, hc24, hF⟩ := q_bnd_some hF
          have hfr := hfr.app (fr_X3_nameCount hc24) (by decide) (by decide) (by decide)
          rcases fr_if hF with hF | hF
          · exact hB91 o1 r7 r10 u23 hfr hF
          · cases hF; exact hfr
        · exact hB91 o1 r7 r10 u14 hfr hF
    · cases hF; exact hfr
abbrev wi_X10_refusalToGoByBoth : List Nat := [13]
abbrev wa_X10_refusalToGoByBoth : List Nat := []
abbrev wj_X10_refusalToGoByBoth : List Nat := []
set_option maxHeartbeats 4000000 in
set_option maxRecDepth 100000 in
theorem fr_X10_refusalToGoByBoth {L : Nat → Nat} {N : Nat} {o1 : Int32} {o2 : Int64} {o4 : Int32} {o5 : Int64} {u0 σ0 : q_St} {r0 : Int32} (hF : fX10_refusalToGoByBoth L N o1 o2 o4 o5 u0 = some (r0, σ0)) : Fr wi_X10_refusalToGoByBoth wa_X10_refusalToGoByBoth wj_X10_refusalToGoByBoth u0 σ0 := by
  have hB28 : ∀ (x7 : Int32) (x8 : Int32) (u : q_St), Fr wi_X10_refusalToGoByBoth wa_X10_refusalToGoByBoth wj_X10_refusalToGoByBoth u0 u → fX10_refusalToGoByBoth_b28 L N x7 x8 u = some (r0, σ0) → Fr wi_X10_refusalToGoByBoth wa_X10_refusalToGoByBoth wj_X10_refusalToGoByBoth u0 σ0 := by
    intro x7 x8 u hfr hF
    unfold fX10_refusalToGoByBoth_b28 at hF
    cases hF; exact hfr
  unfold fX10_refusalToGoByBoth at hF
  have hfr := Fr.rf wi_X10_refusalToGoByBoth wa_X10_refusalToGoByBoth wj_X10_refusalToGoByBoth u0
  obtain ⟨r1, u2, hc3, hF⟩ := q_bnd_some hF
  have hfr := hfr.app (fr_X10_refusalToGoBy hc3) (by decide) (by decide) (by decide)
  obtain ⟨r4, u5, hc6, hF⟩ := q_bnd_some hF
  have hfr := hfr.app (fr_X10_refusalToGoBy hc6) (by decide) (by decide) (by decide)
  rcases fr_if hF with hF | hF
  · exact hB28 r1 r4 u5 hfr hF
  · rcases fr_if hF with hF | hF
    · exact hB28 r1 r4 u5 hfr hF
    · cases hF; exact hfr
abbrev wi_X4_isWithin : List Nat := [13]
abbrev wa_X4_isWithin : List Nat := []
abbrev wj_X4_isWithin : List Nat := []
set_option maxHeartbeats 4000000 in
set_option maxRecDepth 100000 in
theorem fr_X4_isWithin {L : Nat → Nat} {N : Nat} {o1 : Int32} {o2 : Int32} {u0 σ0 : q_St} {r0 : Int32} (hF : fX4_isWithin L N o1 o2 u0 = some (r0, σ0)) : Fr wi_X4_isWithin wa_X4_isWithin wj_X4_isWithin u0 σ0 := by
  have hB5 : ∀ (n : Nat) (x2 : Int32) (x3 : Int32) (x4 : Int32) (u : q_St), Fr wi_X4_isWithin wa_X4_isWithin wj_X4_isWithin u0 u → q_lp (fX4_isWithin_b5 L N) (fun _ _ _ _ => none) n x2 x3 x4 u = some (r0, σ0) → Fr wi_X4_isWithin wa_X4_isWithin wj_X4_isWithin u0 σ0 := by
    intro n
    induction n with
    | zero => intro x2 x3 x4 u hfr hF; exact absurd (show (none : Option (Int32 × q_St)) = some _ from hF) (fun h => nomatch h)
    | succ n hi5 =>
      intro x2 x3 x4 u hfr hF
      obtain ⟨ih5, hih⟩ : ∃ q, q = q_lp (fX4_isWithin_b5 L N) (fun _ _ _ _ => none) n := ⟨_, rfl⟩
      rw [← hih] at hi5
      have hF : fX4_isWithin_b5 L N (q_lp (fX4_isWithin_b5 L N) (fun _ _ _ _ => none) n) x2 x3 x4 u = some (r0, σ0) := hF
      rw [← hih] at hF
      clear hih
      unfold fX4_isWithin_b5 at hF
      rcases fr_if hF with hF | hF
      · cases hF; exact hfr
      · rcases fr_if hF with hF | hF
        · cases hF; exact hfr
        · obtain ⟨r1, u2, hc3, hF⟩ := q_bnd_some hF
          have hfr := hfr.app (fr_X4_holderOf hc3) (by decide) (by decide) (by decide)
          obtain ⟨v4, hF⟩ := fr_nm hF
          exact hi5 x2 r1 v4 u2 hfr hF
  unfold fX4_isWithin at hF
  have hfr := Fr.rf wi_X4_isWithin wa_X4_isWithin wj_X4_isWithin u0
  exact hB5 N o2 o1 0 u0 hfr hF
abbrev wi_X10_refusalToMove : List Nat := [13]
abbrev wa_X10_refusalToMove : List Nat := []
abbrev wj_X10_refusalToMove : List Nat := []
set_option maxHeartbeats 4000000 in
set_option maxRecDepth 100000 in
theorem fr_X10_refusalToMove {L : Nat → Nat} {N : Nat} {o1 : Int32} {o2 : Int32} {o3 : Int32} {o4 : Int32} {u0 σ0 : q_St} {r0 : Int32} (hF : fX10_refusalToMove L N o1 o2 o3 o4 u0 = some (r0, σ0)) : Fr wi_X10_refusalToMove wa_X10_refusalToMove wj_X10_refusalToMove u0 σ0 := by
  have hB99 : ∀ (x1 : Int32) (x5 : Int32) (x6 : Int32) (y0 : Int32) (u : q_St), Fr wi_X10_refusalToMove wa_X10_refusalToMove wj_X10_refusalToMove u0 u → fX10_refusalToMove_b99 L N x1 x5 x6 y0 u = some (r0, σ0) → Fr wi_X10_refusalToMove wa_X10_refusalToMove wj_X10_refusalToMove u0 σ0 := by
    intro x1 x5 x6 y0 u hfr hF
    unfold fX10_refusalToMove_b99 at hF
    rcases fr_if hF with hF | hF
    · cases hF; exact hfr
    · rcases fr_if hF with hF | hF
      · rcases fr_if hF with hF | hF
        · cases hF; exact hfr
        · obtain ⟨r10, u11, hc12, hF⟩ := q_bnd_some hF
          have hfr := hfr.app (fr_X3_nameCount hc12) (by decide) (by decide) (by decide)
          rcases fr_if hF with hF | hF
          · cases hF; exact hfr
          · cases hF; exact hfr
      · cases hF; exact hfr
  have hB62 : ∀ (u : q_St), Fr wi_X10_refusalToMove wa_X10_refusalToMove wj_X10_refusalToMove u0 u → fX10_refusalToMove_b62 L N u = some (r0, σ0) → Fr wi_X10_refusalToMove wa_X10_refusalToMove wj_X10_refusalToMove u0 σ0 := by
    intro u hfr hF
    unfold fX10_refusalToMove_b62 at hF
    cases hF; exact hfr
  have hB39 : ∀ (x1 : Int32) (x2 : Int32) (x3 : Int32) (x4 : Int32) (x5 : Int32) (u : q_St), Fr wi_X10_refusalToMove wa_X10_refusalToMove wj_X10_refusalToMove u0 u → fX10_refusalToMove_b39 L N x1 x2 x3 x4 x5 u = some (r0, σ0) → Fr wi_X10_refusalToMove wa_X10_refusalToMove wj_X10_refusalToMove u0 σ0 := by
    intro x1 x2 x3 x4 x5 u hfr hF
    unfold fX10_refusalToMove_b39 at hF
    rcases fr_if hF with hF | hF
    · rcases fr_if hF with hF | hF
      · exact hB62 u hfr hF
      · obtain ⟨r13, u14, hc15, hF⟩ := q_bnd_some hF
        have hfr := hfr.app (fr_X3_hasRoom hc15) (by decide) (by decide) (by decide)
        rcases fr_if hF with hF | hF
        · cases hF; exact hfr
        · exact hB62 u14 hfr hF
    · obtain ⟨r4, u5, hc6, hF⟩ := q_bnd_some hF
      have hfr := hfr.app (fr_X3_nodeAt hc6) (by decide) (by decide) (by decide)
      obtain ⟨r7, u8, hc9, hF⟩ := q_bnd_some hF
      have hfr := hfr.app (fr_X4_kindOf hc9) (by decide) (by decide) (by decide)
      rcases fr_if hF with hF | hF
      · exact hB99 x1 x5 r4 1 u8 hfr hF
      · exact hB99 x1 x5 r4 0 u8 hfr hF
  have hB17 : ∀ (x1 : Int32) (x2 : Int32) (x3 : Int32) (x4 : Int32) (y0 : Int32) (u : q_St), Fr wi_X10_refusalToMove wa_X10_refusalToMove wj_X10_refusalToMove u0 u → fX10_refusalToMove_b17 L N x1 x2 x3 x4 y0 u = some (r0, σ0) → Fr wi_X10_refusalToMove wa_X10_refusalToMove wj_X10_refusalToMove u0 σ0 := by
    intro x1 x2 x3 x4 y0 u hfr hF
    unfold fX10_refusalToMove_b17 at hF
    rcases fr_if hF with hF | hF
    · exact hB39 x1 x2 x3 x4 y0 u hfr hF
    · obtain ⟨r16, u17, hc18, hF⟩ := q_bnd_some hF
      have hfr := hfr.app (fr_X4_isWithin hc18) (by decide) (by decide) (by decide)
      rcases fr_if hF with hF | hF
      · exact hB39 x1 x2 x3 x4 y0 u17 hfr hF
      · cases hF; exact hfr
  unfold fX10_refusalToMove at hF
  have hfr := Fr.rf wi_X10_refusalToMove wa_X10_refusalToMove wj_X10_refusalToMove u0
  obtain ⟨r1, u2, hc3, hF⟩ := q_bnd_some hF
  have hfr := hfr.app (fr_X4_kindOf hc3) (by decide) (by decide) (by decide)
  rcases fr_if hF with hF | hF
  · exact hB17 o1 o2 o3 o4 1 u2 hfr hF
  · exact hB17 o1 o2 o3 o4 0 u2 hfr hF
abbrev wi_X10_rename : List Nat := [7, 8, 9, 10, 11, 12, 13, 14, 15, 16, 17, 18, 19, 21, 22, 23, 24]
abbrev wa_X10_rename : List Nat := [0, 1, 2, 3, 4, 5, 6]
abbrev wj_X10_rename : List Nat := [0, 2, 3]
set_option maxHeartbeats 4000000 in
set_option maxRecDepth 100000 in
theorem fr_X10_rename {L : Nat → Nat} {N : Nat} {o1 : Int32} {o2 : Int64} {o4 : Int32} {o5 : Int64} {u0 σ0 : q_St} {r0 : Int32} (hF : fX10_rename L N o1 o2 o4 o5 u0 = some (r0, σ0)) : Fr wi_X10_rename wa_X10_rename wj_X10_rename u0 σ0 := by
  have hB157 : ∀ (x1 : Int32) (x4 : Int32) (x5 : Int64) (x8 : Int32) (x9 : Int32) (u : q_St), Fr wi_X10_rename wa_X10_rename wj_X10_rename u0 u → fX10_rename_b157 L N x1 x4 x5 x8 x9 u = some (r0, σ0) → Fr wi_X10_rename wa_X10_rename wj_X10_rename u0 σ0 := by
    intro x1 x4 x5 x8 x9 u hfr hF
    unfold fX10_rename_b157 at hF
    obtain ⟨r19, u20, hc21, hF⟩ := q_bnd_some hF
    have hfr := hfr.app (fr_X3_takeOut hc21) (by decide) (by decide) (by decide)
    obtain ⟨r22, u23, hc24, hF⟩ := q_bnd_some hF
    have hfr := hfr.app (fr_X3_add hc24) (by decide) (by decide) (by decide)
    rcases fr_if hF with hF | hF
    · cases hF; exact hfr
    · obtain ⟨r25, u26, hc27, hF⟩ := q_bnd_some hF
      have hfr := hfr.app (fr_X4_kindOf hc27) (by decide) (by decide) (by decide)
      rcases fr_if hF with hF | hF
      · obtain ⟨r28, u29, hc30, hF⟩ := q_bnd_some hF
        have hfr := hfr.app (fr_X4_setHolder hc30) (by decide) (by decide) (by decide)
        cases hF; exact hfr
      · cases hF; exact hfr
  have hB83 : ∀ (x1 : Int32) (x4 : Int32) (x5 : Int64) (x8 : Int32) (x9 : Int32) (u : q_St), Fr wi_X10_rename wa_X10_rename wj_X10_rename u0 u → fX10_rename_b83 L N x1 x4 x5 x8 x9 u = some (r0, σ0) → Fr wi_X10_rename wa_X10_rename wj_X10_rename u0 σ0 := by
    intro x1 x4 x5 x8 x9 u hfr hF
    unfold fX10_rename_b83 at hF
    obtain ⟨r13, u14, hc15, hF⟩ := q_bnd_some hF
    have hfr := hfr.app (fr_X3_seek hc15) (by decide) (by decide) (by decide)
    obtain ⟨r16, u17, hc18, hF⟩ := q_bnd_some hF
    have hfr := hfr.app (fr_X10_refusalToMove hc18) (by decide) (by decide) (by decide)
    rcases fr_if hF with hF | hF
    · rcases fr_if hF with hF | hF
      · exact hB157 x1 x4 x5 x8 x9 u17 hfr hF
      · obtain ⟨r31, u32, hc33, hF⟩ := q_bnd_some hF
        have hfr := hfr.app (fr_X3_nodeAt hc33) (by decide) (by decide) (by decide)
        obtain ⟨r34, u35, hc36, hF⟩ := q_bnd_some hF
        have hfr := hfr.app (fr_X3_takeOut hc36) (by decide) (by decide) (by decide)
        obtain ⟨r37, u38, hc39, hF⟩ := q_bnd_some hF
        have hfr := hfr.app (fr_X0_dropOne hc39) (by decide) (by decide) (by decide)
        exact hB157 x1 x4 x5 x8 x9 u38 hfr hF
    · cases hF; exact hfr
  unfold fX10_rename at hF
  have hfr := Fr.rf wi_X10_rename wa_X10_rename wj_X10_rename u0
  obtain ⟨r1, u2, hc3, hF⟩ := q_bnd_some hF
  have hfr := hfr.app (fr_X6_commitOver hc3) (by decide) (by decide) (by decide)
  rcases fr_if hF with hF | hF
  · cases hF; exact hfr
  · obtain ⟨r4, u5, hc6, hF⟩ := q_bnd_some hF
    have hfr := hfr.app (fr_X10_refusalToGoByBoth hc6) (by decide) (by decide) (by decide)
    rcases fr_if hF with hF | hF
    · obtain ⟨r7, u8, hc9, hF⟩ := q_bnd_some hF
      have hfr := hfr.app (fr_X3_seek hc9) (by decide) (by decide) (by decide)
      rcases fr_if hF with hF | hF
      · cases hF; exact hfr
      · obtain ⟨r10, u11, hc12, hF⟩ := q_bnd_some hF
        have hfr := hfr.app (fr_X3_nodeAt hc12) (by decide) (by decide) (by decide)
        rcases fr_if hF with hF | hF
        · rcases fr_if hF with hF | hF
          · cases hF; exact hfr
          · exact hB83 o1 o4 o5 r7 r10 u11 hfr hF
        · exact hB83 o1 o4 o5 r7 r10 u11 hfr hF
    · cases hF; exact hfr
abbrev wi_X10_find : List Nat := [13]
abbrev wa_X10_find : List Nat := []
abbrev wj_X10_find : List Nat := []
set_option maxHeartbeats 4000000 in
set_option maxRecDepth 100000 in
theorem fr_X10_find {L : Nat → Nat} {N : Nat} {o1 : Int32} {o2 : Int64} {u0 σ0 : q_St} {r0 : Int32} (hF : fX10_find L N o1 o2 u0 = some (r0, σ0)) : Fr wi_X10_find wa_X10_find wj_X10_find u0 σ0 := by
  unfold fX10_find at hF
  have hfr := Fr.rf wi_X10_find wa_X10_find wj_X10_find u0
  rcases fr_if hF with hF | hF
  · cases hF; exact hfr
  · obtain ⟨r1, u2, hc3, hF⟩ := q_bnd_some hF
    have hfr := hfr.app (fr_X4_kindOf hc3) (by decide) (by decide) (by decide)
    rcases fr_if hF with hF | hF
    · obtain ⟨r4, u5, hc6, hF⟩ := q_bnd_some hF
      have hfr := hfr.app (fr_X3_isName hc6) (by decide) (by decide) (by decide)
      rcases fr_if hF with hF | hF
      · cases hF; exact hfr
      · obtain ⟨r7, u8, hc9, hF⟩ := q_bnd_some hF
        have hfr := hfr.app (fr_X4_may hc9) (by decide) (by decide) (by decide)
        rcases fr_if hF with hF | hF
        · cases hF; exact hfr
        · obtain ⟨r10, u11, hc12, hF⟩ := q_bnd_some hF
          have hfr := hfr.app (fr_X3_seek hc12) (by decide) (by decide) (by decide)
          rcases fr_if hF with hF | hF
          · cases hF; exact hfr
          · obtain ⟨r13, u14, hc15, hF⟩ := q_bnd_some hF
            have hfr := hfr.app (fr_X3_nodeAt hc15) (by decide) (by decide) (by decide)
            cases hF; exact hfr
    · cases hF; exact hfr
abbrev wi_X9_byteOf : List Nat := [13]
abbrev wa_X9_byteOf : List Nat := []
abbrev wj_X9_byteOf : List Nat := []
set_option maxHeartbeats 4000000 in
set_option maxRecDepth 100000 in
theorem fr_X9_byteOf {L : Nat → Nat} {N : Nat} {o1 : Int32} {o2 : Int32} {u0 σ0 : q_St} {r0 : Int32} (hF : fX9_byteOf L N o1 o2 u0 = some (r0, σ0)) : Fr wi_X9_byteOf wa_X9_byteOf wj_X9_byteOf u0 σ0 := by
  unfold fX9_byteOf at hF
  have hfr := Fr.rf wi_X9_byteOf wa_X9_byteOf wj_X9_byteOf u0
  rcases fr_if hF with hF | hF
  · obtain ⟨r7, u8, hc9, hF⟩ := q_bnd_some hF
    have hfr := hfr.app (fr_X7_byteOf_8 hc9) (by decide) (by decide) (by decide)
    cases hF; exact hfr
  · obtain ⟨r1, u2, hc3, hF⟩ := q_bnd_some hF
    have hfr := hfr.app (fr_X4_sectorOf hc3) (by decide) (by decide) (by decide)
    obtain ⟨r4, u5, hc6, hF⟩ := q_bnd_some hF
    have hfr := hfr.app (fr_X6_octet hc6) (by decide) (by decide) (by decide)
    cases hF; exact hfr
abbrev wi_X9_begin : List Nat := [13, 34, 36]
abbrev wa_X9_begin : List Nat := [10, 11]
abbrev wj_X9_begin : List Nat := []
set_option maxHeartbeats 4000000 in
set_option maxRecDepth 100000 in
theorem fr_X9_begin {L : Nat → Nat} {N : Nat} {o1 : Int32} {u0 σ0 : q_St} {r0 : Unit} (hF : fX9_begin L N o1 u0 = some (r0, σ0)) : Fr wi_X9_begin wa_X9_begin wj_X9_begin u0 σ0 := by
  have hB54 : ∀ (x1 : Int32) (u : q_St), Fr wi_X9_begin wa_X9_begin wj_X9_begin u0 u → fX9_begin_b54 L N x1 u = some (r0, σ0) → Fr wi_X9_begin wa_X9_begin wj_X9_begin u0 σ0 := by
    intro x1 u hfr hF
    unfold fX9_begin_b54 at hF
    obtain ⟨r1, u2, hc3, hF⟩ := q_bnd_some hF
    have hfr := hfr.app (fr_X9_byteOf hc3) (by decide) (by decide) (by decide)
    rcases fr_if hF with hF | hF
    · obtain ⟨u4, hfr, hF⟩ := fr_si hfr hF (by decide)
      cases hF; exact hfr
    · cases hF; exact hfr
  unfold fX9_begin at hF
  have hfr := Fr.rf wi_X9_begin wa_X9_begin wj_X9_begin u0
  rcases fr_if hF with hF | hF
  · exact hB54 o1 u0 hfr hF
  · rcases fr_if hF with hF | hF
    · exact hB54 o1 u0 hfr hF
    · obtain ⟨u5, hfr, hF⟩ := fr_wa hfr hF (by decide)
      obtain ⟨u6, hfr, hF⟩ := fr_wa hfr hF (by decide)
      obtain ⟨u7, hfr, hF⟩ := fr_si hfr hF (by decide)
      exact hB54 o1 u7 hfr hF
abbrev wi_X9_nextPart : List Nat := [13, 34, 37, 38, 39]
abbrev wa_X9_nextPart : List Nat := [11]
abbrev wj_X9_nextPart : List Nat := []
set_option maxHeartbeats 4000000 in
set_option maxRecDepth 100000 in
theorem fr_X9_nextPart {L : Nat → Nat} {N : Nat}  {u0 σ0 : q_St} {r0 : Unit} (hF : fX9_nextPart L N u0 = some (r0, σ0)) : Fr wi_X9_nextPart wa_X9_nextPart wj_X9_nextPart u0 σ0 := by
  have hB126 : ∀ (x1 : Int32) (x2 : Int32) (u : q_St), Fr wi_X9_nextPart wa_X9_nextPart wj_X9_nextPart u0 u → fX9_nextPart_b126 L N x1 x2 u = some (r0, σ0) → Fr wi_X9_nextPart wa_X9_nextPart wj_X9_nextPart u0 σ0 := by
    intro x1 x2 u hfr hF
    unfold fX9_nextPart_b126 at hF
    obtain ⟨u10, hfr, hF⟩ := fr_wa hfr hF (by decide)
    rcases fr_if hF with hF | hF
    · cases hF; exact hfr
    · obtain ⟨u11, hfr, hF⟩ := fr_si hfr hF (by decide)
      cases hF; exact hfr
  have hB88 : ∀ (n : Nat) (x1 : Int32) (x2 : Int32) (u : q_St), Fr wi_X9_nextPart wa_X9_nextPart wj_X9_nextPart u0 u → q_lp (fX9_nextPart_b88 L N) (fun _ _ _ => none) n x1 x2 u = some (r0, σ0) → Fr wi_X9_nextPart wa_X9_nextPart wj_X9_nextPart u0 σ0 := by
    intro n
    induction n with
    | zero => intro x1 x2 u hfr hF; exact absurd (show (none : Option (Unit × q_St)) = some _ from hF) (fun h => nomatch h)
    | succ n hi88 =>
      intro x1 x2 u hfr hF
      obtain ⟨ih88, hih⟩ : ∃ q, q = q_lp (fX9_nextPart_b88 L N) (fun _ _ _ => none) n := ⟨_, rfl⟩
      rw [← hih] at hi88
      have hF : fX9_nextPart_b88 L N (q_lp (fX9_nextPart_b88 L N) (fun _ _ _ => none) n) x1 x2 u = some (r0, σ0) := hF
      rw [← hih] at hF
      clear hih
      unfold fX9_nextPart_b88 at hF
      rcases fr_if hF with hF | hF
      · exact hB126 x1 x2 u hfr hF
      · obtain ⟨r12, u13, hc14, hF⟩ := q_bnd_some hF
        have hfr := hfr.app (fr_X9_byteOf hc14) (by decide) (by decide) (by decide)
        rcases fr_if hF with hF | hF
        · exact hB126 x1 x2 u13 hfr hF
        · obtain ⟨u15, hfr, hF⟩ := fr_si hfr hF (by decide)
          exact hi88 x1 x2 u15 hfr hF
  have hB79 : ∀ (x1 : Int32) (y0 : Int32) (u : q_St), Fr wi_X9_nextPart wa_X9_nextPart wj_X9_nextPart u0 u → fX9_nextPart_b79 L N x1 y0 u = some (r0, σ0) → Fr wi_X9_nextPart wa_X9_nextPart wj_X9_nextPart u0 σ0 := by
    intro x1 y0 u hfr hF
    unfold fX9_nextPart_b79 at hF
    obtain ⟨u9, hfr, hF⟩ := fr_si hfr hF (by decide)
    exact hB88 N x1 y0 u9 hfr hF
  unfold fX9_nextPart at hF
  have hfr := Fr.rf wi_X9_nextPart wa_X9_nextPart wj_X9_nextPart u0
  obtain ⟨v1, hF⟩ := fr_nm hF
  rcases fr_if hF with hF | hF
  · cases hF; exact hfr
  · rcases fr_if hF with hF | hF
    · cases hF; exact hfr
    · rcases fr_if hF with hF | hF
      · obtain ⟨v2, hF⟩ := fr_rd hF
        obtain ⟨u3, hfr, hF⟩ := fr_si hfr hF (by decide)
        obtain ⟨v4, hF⟩ := fr_rd hF
        obtain ⟨u5, hfr, hF⟩ := fr_si hfr hF (by decide)
        rcases fr_if hF with hF | hF
        · exact hB79 v1 (q_i u5 32) u5 hfr hF
        · obtain ⟨r6, u7, hc8, hF⟩ := q_bnd_some hF
          have hfr := hfr.app (fr_X4_lengthOf hc8) (by decide) (by decide) (by decide)
          exact hB79 v1 r6 u7 hfr hF
      · cases hF; exact hfr
abbrev wi_X9_partName : List Nat := [13]
abbrev wa_X9_partName : List Nat := []
abbrev wj_X9_partName : List Nat := []
set_option maxHeartbeats 4000000 in
set_option maxRecDepth 100000 in
theorem fr_X9_partName {L : Nat → Nat} {N : Nat}  {u0 σ0 : q_St} {r0 : Int64} (hF : fX9_partName L N u0 = some (r0, σ0)) : Fr wi_X9_partName wa_X9_partName wj_X9_partName u0 σ0 := by
  have hB23 : ∀ (n : Nat) (x1 : Int64) (x3 : Int32) (u : q_St), Fr wi_X9_partName wa_X9_partName wj_X9_partName u0 u → q_lp (fX9_partName_b23 L N) (fun _ _ _ => none) n x1 x3 u = some (r0, σ0) → Fr wi_X9_partName wa_X9_partName wj_X9_partName u0 σ0 := by
    intro n
    induction n with
    | zero => intro x1 x3 u hfr hF; exact absurd (show (none : Option (Int64 × q_St)) = some _ from hF) (fun h => nomatch h)
    | succ n hi23 =>
      intro x1 x3 u hfr hF
      obtain ⟨ih23, hih⟩ : ∃ q, q = q_lp (fX9_partName_b23 L N) (fun _ _ _ => none) n := ⟨_, rfl⟩
      rw [← hih] at hi23
      have hF : fX9_partName_b23 L N (q_lp (fX9_partName_b23 L N) (fun _ _ _ => none) n) x1 x3 u = some (r0, σ0) := hF
      rw [← hih] at hF
      clear hih
      unfold fX9_partName_b23 at hF
      rcases fr_if hF with hF | hF
      · cases hF; exact hfr
      · obtain ⟨r2, u3, hc4, hF⟩ := q_bnd_some hF
        have hfr := hfr.app (fr_X9_byteOf hc4) (by decide) (by decide) (by decide)
        obtain ⟨r5, u6, hc7, hF⟩ := q_bnd_some hF
        have hfr := hfr.app (fr_X3_isNameByte hc7) (by decide) (by decide) (by decide)
        rcases fr_if hF with hF | hF
        · cases hF; exact hfr
        · obtain ⟨v8, hF⟩ := fr_nm hF
          obtain ⟨v9, hF⟩ := fr_nm hF
          exact hi23 v8 v9 u6 hfr hF
  unfold fX9_partName at hF
  have hfr := Fr.rf wi_X9_partName wa_X9_partName wj_X9_partName u0
  rcases fr_if hF with hF | hF
  · obtain ⟨v1, hF⟩ := fr_nm hF
    exact hB23 N 0 v1 u0 hfr hF
  · cases hF; exact hfr
abbrev wi_X9_goPart : List Nat := [13, 34, 35, 36]
abbrev wa_X9_goPart : List Nat := [10, 11]
abbrev wj_X9_goPart : List Nat := []
set_option maxHeartbeats 4000000 in
set_option maxRecDepth 100000 in
theorem fr_X9_goPart {L : Nat → Nat} {N : Nat} {o1 : Int32} {u0 σ0 : q_St} {r0 : Int32} (hF : fX9_goPart L N o1 u0 = some (r0, σ0)) : Fr wi_X9_goPart wa_X9_goPart wj_X9_goPart u0 σ0 := by
  have hB137 : ∀ (x1 : Int32) (u : q_St), Fr wi_X9_goPart wa_X9_goPart wj_X9_goPart u0 u → fX9_goPart_b137 L N x1 u = some (r0, σ0) → Fr wi_X9_goPart wa_X9_goPart wj_X9_goPart u0 σ0 := by
    intro x1 u hfr hF
    unfold fX9_goPart_b137 at hF
    obtain ⟨r4, u5, hc6, hF⟩ := q_bnd_some hF
    have hfr := hfr.app (fr_X9_partName hc6) (by decide) (by decide) (by decide)
    rcases fr_if hF with hF | hF
    · cases hF; exact hfr
    · obtain ⟨r7, u8, hc9, hF⟩ := q_bnd_some hF
      have hfr := hfr.app (fr_X4_may hc9) (by decide) (by decide) (by decide)
      rcases fr_if hF with hF | hF
      · cases hF; exact hfr
      · obtain ⟨r10, u11, hc12, hF⟩ := q_bnd_some hF
        have hfr := hfr.app (fr_X3_seek hc12) (by decide) (by decide) (by decide)
        rcases fr_if hF with hF | hF
        · cases hF; exact hfr
        · obtain ⟨r13, u14, hc15, hF⟩ := q_bnd_some hF
          have hfr := hfr.app (fr_X3_nodeAt hc15) (by decide) (by decide) (by decide)
          obtain ⟨r16, u17, hc18, hF⟩ := q_bnd_some hF
          have hfr := hfr.app (fr_X4_kindOf hc18) (by decide) (by decide) (by decide)
          rcases fr_if hF with hF | hF
          · rcases fr_if hF with hF | hF
            · obtain ⟨u19, hfr, hF⟩ := fr_si hfr hF (by decide)
              obtain ⟨r20, u21, hc22, hF⟩ := q_bnd_some hF
              have hfr := hfr.app (fr_X9_begin hc22) (by decide) (by decide) (by decide)
              cases hF; exact hfr
            · cases hF; exact hfr
          · obtain ⟨u23, hfr, hF⟩ := fr_si hfr hF (by decide)
            cases hF; exact hfr
  have hB84 : ∀ (x1 : Int32) (x2 : Int32) (u : q_St), Fr wi_X9_goPart wa_X9_goPart wj_X9_goPart u0 u → fX9_goPart_b84 L N x1 x2 u = some (r0, σ0) → Fr wi_X9_goPart wa_X9_goPart wj_X9_goPart u0 σ0 := by
    intro x1 x2 u hfr hF
    unfold fX9_goPart_b84 at hF
    rcases fr_if hF with hF | hF
    · exact hB137 x1 u hfr hF
    · rcases fr_if hF with hF | hF
      · obtain ⟨r24, u25, hc26, hF⟩ := q_bnd_some hF
        have hfr := hfr.app (fr_X9_byteOf hc26) (by decide) (by decide) (by decide)
        rcases fr_if hF with hF | hF
        · obtain ⟨r27, u28, hc29, hF⟩ := q_bnd_some hF
          have hfr := hfr.app (fr_X4_holderOf hc29) (by decide) (by decide) (by decide)
          obtain ⟨u30, hfr, hF⟩ := fr_si hfr hF (by decide)
          cases hF; exact hfr
        · exact hB137 x1 u25 hfr hF
      · exact hB137 x1 u hfr hF
  have hB53 : ∀ (x1 : Int32) (y0 : Int32) (u : q_St), Fr wi_X9_goPart wa_X9_goPart wj_X9_goPart u0 u → fX9_goPart_b53 L N x1 y0 u = some (r0, σ0) → Fr wi_X9_goPart wa_X9_goPart wj_X9_goPart u0 σ0 := by
    intro x1 y0 u hfr hF
    unfold fX9_goPart_b53 at hF
    rcases fr_if hF with hF | hF
    · cases hF; exact hfr
    · rcases fr_if hF with hF | hF
      · exact hB84 x1 y0 u hfr hF
      · rcases fr_if hF with hF | hF
        · cases hF; exact hfr
        · exact hB84 x1 y0 u hfr hF
  have hB52 : ∀ (x1 : Int32) (u : q_St), Fr wi_X9_goPart wa_X9_goPart wj_X9_goPart u0 u → fX9_goPart_b52 L N x1 u = some (r0, σ0) → Fr wi_X9_goPart wa_X9_goPart wj_X9_goPart u0 σ0 := by
    intro x1 u hfr hF
    unfold fX9_goPart_b52 at hF
    exact hB53 x1 0 u hfr hF
  unfold fX9_goPart at hF
  have hfr := Fr.rf wi_X9_goPart wa_X9_goPart wj_X9_goPart u0
  obtain ⟨r1, u2, hc3, hF⟩ := q_bnd_some hF
  have hfr := hfr.app (fr_X4_kindOf hc3) (by decide) (by decide) (by decide)
  rcases fr_if hF with hF | hF
  · rcases fr_if hF with hF | hF
    · exact hB52 o1 u2 hfr hF
    · obtain ⟨r31, u32, hc33, hF⟩ := q_bnd_some hF
      have hfr := hfr.app (fr_X9_byteOf hc33) (by decide) (by decide) (by decide)
      rcases fr_if hF with hF | hF
      · exact hB53 o1 1 u32 hfr hF
      · exact hB52 o1 u32 hfr hF
  · cases hF; exact hfr
abbrev wi_X9_follow : List Nat := [13, 34, 35, 36, 37, 38, 39]
abbrev wa_X9_follow : List Nat := [10, 11]
abbrev wj_X9_follow : List Nat := []
set_option maxHeartbeats 4000000 in
set_option maxRecDepth 100000 in
theorem fr_X9_follow {L : Nat → Nat} {N : Nat} {o1 : Int32} {o2 : Int32} {u0 σ0 : q_St} {r0 : Int32} (hF : fX9_follow L N o1 o2 u0 = some (r0, σ0)) : Fr wi_X9_follow wa_X9_follow wj_X9_follow u0 σ0 := by
  have hB61 : ∀ (u : q_St), Fr wi_X9_follow wa_X9_follow wj_X9_follow u0 u → fX9_follow_b61 L N u = some (r0, σ0) → Fr wi_X9_follow wa_X9_follow wj_X9_follow u0 σ0 := by
    intro u hfr hF
    unfold fX9_follow_b61 at hF
    cases hF; exact hfr
  have hB22 : ∀ (n : Nat) (x2 : Int32) (x3 : Int32) (u : q_St), Fr wi_X9_follow wa_X9_follow wj_X9_follow u0 u → q_lp (fX9_follow_b22 L N) (fun _ _ _ => none) n x2 x3 u = some (r0, σ0) → Fr wi_X9_follow wa_X9_follow wj_X9_follow u0 σ0 := by
    intro n
    induction n with
    | zero => intro x2 x3 u hfr hF; exact absurd (show (none : Option (Int32 × q_St)) = some _ from hF) (fun h => nomatch h)
    | succ n hi22 =>
      intro x2 x3 u hfr hF
      obtain ⟨ih22, hih⟩ : ∃ q, q = q_lp (fX9_follow_b22 L N) (fun _ _ _ => none) n := ⟨_, rfl⟩
      rw [← hih] at hi22
      have hF : fX9_follow_b22 L N (q_lp (fX9_follow_b22 L N) (fun _ _ _ => none) n) x2 x3 u = some (r0, σ0) := hF
      rw [← hih] at hF
      clear hih
      unfold fX9_follow_b22 at hF
      rcases fr_if hF with hF | hF
      · exact hB61 u hfr hF
      · rcases fr_if hF with hF | hF
        · exact hB61 u hfr hF
        · obtain ⟨r7, u8, hc9, hF⟩ := q_bnd_some hF
          have hfr := hfr.app (fr_X9_nextPart hc9) (by decide) (by decide) (by decide)
          obtain ⟨r10, u11, hc12, hF⟩ := q_bnd_some hF
          have hfr := hfr.app (fr_X9_goPart hc12) (by decide) (by decide) (by decide)
          rcases fr_if hF with hF | hF
          · obtain ⟨v13, hF⟩ := fr_nm hF
            exact hi22 x2 v13 u11 hfr hF
          · cases hF; exact hfr
  unfold fX9_follow at hF
  have hfr := Fr.rf wi_X9_follow wa_X9_follow wj_X9_follow u0
  obtain ⟨u1, hfr, hF⟩ := fr_si hfr hF (by decide)
  obtain ⟨u2, hfr, hF⟩ := fr_si hfr hF (by decide)
  obtain ⟨u3, hfr, hF⟩ := fr_si hfr hF (by decide)
  obtain ⟨r4, u5, hc6, hF⟩ := q_bnd_some hF
  have hfr := hfr.app (fr_X9_begin hc6) (by decide) (by decide) (by decide)
  exact hB22 N o2 0 u5 hfr hF
abbrev wi_X10_walk : List Nat := [13, 32, 34, 35, 36, 37, 38, 39]
abbrev wa_X10_walk : List Nat := [10, 11]
abbrev wj_X10_walk : List Nat := []
set_option maxHeartbeats 4000000 in
set_option maxRecDepth 100000 in
theorem fr_X10_walk {L : Nat → Nat} {N : Nat} {o1 : Int32} {u0 σ0 : q_St} {r0 : Int32} (hF : fX10_walk L N o1 u0 = some (r0, σ0)) : Fr wi_X10_walk wa_X10_walk wj_X10_walk u0 σ0 := by
  have hB43 : ∀ (x2 : Int32) (u : q_St), Fr wi_X10_walk wa_X10_walk wj_X10_walk u0 u → fX10_walk_b43 L N x2 u = some (r0, σ0) → Fr wi_X10_walk wa_X10_walk wj_X10_walk u0 σ0 := by
    intro x2 u hfr hF
    unfold fX10_walk_b43 at hF
    obtain ⟨u1, hfr, hF⟩ := fr_si hfr hF (by decide)
    cases hF; exact hfr
  have hB42 : ∀ (y0 : Int32) (u : q_St), Fr wi_X10_walk wa_X10_walk wj_X10_walk u0 u → fX10_walk_b42 L N y0 u = some (r0, σ0) → Fr wi_X10_walk wa_X10_walk wj_X10_walk u0 σ0 := by
    intro y0 u hfr hF
    unfold fX10_walk_b42 at hF
    exact hB43 y0 u hfr hF
  unfold fX10_walk at hF
  have hfr := Fr.rf wi_X10_walk wa_X10_walk wj_X10_walk u0
  rcases fr_if hF with hF | hF
  · exact hB43 (-99) u0 hfr hF
  · obtain ⟨r2, u3, hc4, hF⟩ := q_bnd_some hF
    have hfr := hfr.app (fr_X4_kindOf hc4) (by decide) (by decide) (by decide)
    rcases fr_if hF with hF | hF
    · obtain ⟨r5, u6, hc7, hF⟩ := q_bnd_some hF
      have hfr := hfr.app (fr_X9_follow hc7) (by decide) (by decide) (by decide)
      exact hB42 r5 u6 hfr hF
    · exact hB42 (-10) u3 hfr hF
abbrev wi_X10_refusalToList : List Nat := [13]
abbrev wa_X10_refusalToList : List Nat := []
abbrev wj_X10_refusalToList : List Nat := []
set_option maxHeartbeats 4000000 in
set_option maxRecDepth 100000 in
theorem fr_X10_refusalToList {L : Nat → Nat} {N : Nat} {o1 : Int32} {u0 σ0 : q_St} {r0 : Int32} (hF : fX10_refusalToList L N o1 u0 = some (r0, σ0)) : Fr wi_X10_refusalToList wa_X10_refusalToList wj_X10_refusalToList u0 σ0 := by
  unfold fX10_refusalToList at hF
  have hfr := Fr.rf wi_X10_refusalToList wa_X10_refusalToList wj_X10_refusalToList u0
  rcases fr_if hF with hF | hF
  · cases hF; exact hfr
  · obtain ⟨r1, u2, hc3, hF⟩ := q_bnd_some hF
    have hfr := hfr.app (fr_X4_kindOf hc3) (by decide) (by decide) (by decide)
    rcases fr_if hF with hF | hF
    · obtain ⟨r4, u5, hc6, hF⟩ := q_bnd_some hF
      have hfr := hfr.app (fr_X4_may hc6) (by decide) (by decide) (by decide)
      rcases fr_if hF with hF | hF
      · cases hF; exact hfr
      · cases hF; exact hfr
    · cases hF; exact hfr
abbrev wi_X3_orderKey : List Nat := []
abbrev wa_X3_orderKey : List Nat := []
abbrev wj_X3_orderKey : List Nat := []
set_option maxHeartbeats 4000000 in
set_option maxRecDepth 100000 in
theorem fr_X3_orderKey {L : Nat → Nat} {N : Nat} {o0 : Int64} {u0 σ0 : q_St} {r0 : Int64} (hF : fX3_orderKey L N o0 u0 = some (r0, σ0)) : Fr wi_X3_orderKey wa_X3_orderKey wj_X3_orderKey u0 σ0 := by
  have hB5 : ∀ (n : Nat) (x0 : Int64) (x2 : Int64) (x4 : Int32) (u : q_St), Fr wi_X3_orderKey wa_X3_orderKey wj_X3_orderKey u0 u → q_lp (fX3_orderKey_b5 L N) (fun _ _ _ _ => none) n x0 x2 x4 u = some (r0, σ0) → Fr wi_X3_orderKey wa_X3_orderKey wj_X3_orderKey u0 σ0 := by
    intro n
    induction n with
    | zero => intro x0 x2 x4 u hfr hF; exact absurd (show (none : Option (Int64 × q_St)) = some _ from hF) (fun h => nomatch h)
    | succ n hi5 =>
      intro x0 x2 x4 u hfr hF
      obtain ⟨ih5, hih⟩ : ∃ q, q = q_lp (fX3_orderKey_b5 L N) (fun _ _ _ _ => none) n := ⟨_, rfl⟩
      rw [← hih] at hi5
      have hF : fX3_orderKey_b5 L N (q_lp (fX3_orderKey_b5 L N) (fun _ _ _ _ => none) n) x0 x2 x4 u = some (r0, σ0) := hF
      rw [← hih] at hF
      clear hih
      unfold fX3_orderKey_b5 at hF
      rcases fr_if hF with hF | hF
      · cases hF; exact hfr
      · obtain ⟨v1, hF⟩ := fr_nm hF
        obtain ⟨v2, hF⟩ := fr_nm hF
        exact hi5 x0 v1 v2 u hfr hF
  unfold fX3_orderKey at hF
  have hfr := Fr.rf wi_X3_orderKey wa_X3_orderKey wj_X3_orderKey u0
  exact hB5 N o0 0 0 u0 hfr hF
abbrev wi_X3_slotInOrder : List Nat := [13]
abbrev wa_X3_slotInOrder : List Nat := [7]
abbrev wj_X3_slotInOrder : List Nat := [4]
set_option maxHeartbeats 4000000 in
set_option maxRecDepth 100000 in
theorem fr_X3_slotInOrder {L : Nat → Nat} {N : Nat} {o1 : Int32} {o2 : Int32} {u0 σ0 : q_St} {r0 : Int32} (hF : fX3_slotInOrder L N o1 o2 u0 = some (r0, σ0)) : Fr wi_X3_slotInOrder wa_X3_slotInOrder wj_X3_slotInOrder u0 σ0 := by
  have hB111 : ∀ (ih72 : Int32 → Int32 → Int32 → q_St → Option (Int32 × q_St)) (hi72 : ∀ (x2 : Int32) (x3 : Int32) (x4 : Int32) (u : q_St), Fr wi_X3_slotInOrder wa_X3_slotInOrder wj_X3_slotInOrder u0 u → ih72 x2 x3 x4 u = some (r0, σ0) → Fr wi_X3_slotInOrder wa_X3_slotInOrder wj_X3_slotInOrder u0 σ0), ∀ (ih84 : Int32 → Int32 → Int32 → Int32 → Int32 → q_St → Option (Int32 × q_St)) (hi84 : ∀ (x2 : Int32) (x3 : Int32) (x4 : Int32) (x5 : Int32) (x6 : Int32) (u : q_St), Fr wi_X3_slotInOrder wa_X3_slotInOrder wj_X3_slotInOrder u0 u → ih84 x2 x3 x4 x5 x6 u = some (r0, σ0) → Fr wi_X3_slotInOrder wa_X3_slotInOrder wj_X3_slotInOrder u0 σ0), ∀ (x2 : Int32) (x3 : Int32) (x4 : Int32) (x5 : Int32) (x6 : Int32) (u : q_St), Fr wi_X3_slotInOrder wa_X3_slotInOrder wj_X3_slotInOrder u0 u → fX3_slotInOrder_b111 L N ih72 ih84 x2 x3 x4 x5 x6 u = some (r0, σ0) → Fr wi_X3_slotInOrder wa_X3_slotInOrder wj_X3_slotInOrder u0 σ0 := by
    intro ih72 hi72 ih84 hi84 x2 x3 x4 x5 x6 u hfr hF
    unfold fX3_slotInOrder_b111 at hF
    obtain ⟨v5, hF⟩ := fr_nm hF
    exact hi84 x2 x3 x4 x5 v5 u hfr hF
  have hB84 : ∀ (ih72 : Int32 → Int32 → Int32 → q_St → Option (Int32 × q_St)) (hi72 : ∀ (x2 : Int32) (x3 : Int32) (x4 : Int32) (u : q_St), Fr wi_X3_slotInOrder wa_X3_slotInOrder wj_X3_slotInOrder u0 u → ih72 x2 x3 x4 u = some (r0, σ0) → Fr wi_X3_slotInOrder wa_X3_slotInOrder wj_X3_slotInOrder u0 σ0), ∀ (n : Nat) (x2 : Int32) (x3 : Int32) (x4 : Int32) (x5 : Int32) (x6 : Int32) (u : q_St), Fr wi_X3_slotInOrder wa_X3_slotInOrder wj_X3_slotInOrder u0 u → q_lp (fX3_slotInOrder_b84 L N ih72) (fun _ _ _ _ _ _ => none) n x2 x3 x4 x5 x6 u = some (r0, σ0) → Fr wi_X3_slotInOrder wa_X3_slotInOrder wj_X3_slotInOrder u0 σ0 := by
    intro ih72 hi72 n
    induction n with
    | zero => intro x2 x3 x4 x5 x6 u hfr hF; exact absurd (show (none : Option (Int32 × q_St)) = some _ from hF) (fun h => nomatch h)
    | succ n hi84 =>
      intro x2 x3 x4 x5 x6 u hfr hF
      obtain ⟨ih84, hih⟩ : ∃ q, q = q_lp (fX3_slotInOrder_b84 L N ih72) (fun _ _ _ _ _ _ => none) n := ⟨_, rfl⟩
      rw [← hih] at hi84
      have hF : fX3_slotInOrder_b84 L N ih72 (q_lp (fX3_slotInOrder_b84 L N ih72) (fun _ _ _ _ _ _ => none) n) x2 x3 x4 x5 x6 u = some (r0, σ0) := hF
      rw [← hih] at hF
      clear hih
      unfold fX3_slotInOrder_b84 at hF
      rcases fr_if hF with hF | hF
      · rcases fr_if hF with hF | hF
        · obtain ⟨v2, hF⟩ := fr_rd hF
          cases hF; exact hfr
        · obtain ⟨v1, hF⟩ := fr_nm hF
          exact hi72 x2 x3 v1 u hfr hF
      · obtain ⟨v3, hF⟩ := fr_rd hF
        obtain ⟨v4, hF⟩ := fr_rd hF
        rcases fr_if hF with hF | hF
        · exact hB111 ih72 hi72 ih84 hi84 x2 x3 x4 x5 x6 u hfr hF
        · obtain ⟨v6, hF⟩ := fr_nm hF
          exact hB111 ih72 hi72 ih84 hi84 x2 x3 x4 v6 x6 u hfr hF
  have hB72 : ∀ (n : Nat) (x2 : Int32) (x3 : Int32) (x4 : Int32) (u : q_St), Fr wi_X3_slotInOrder wa_X3_slotInOrder wj_X3_slotInOrder u0 u → q_lp (fX3_slotInOrder_b72 L N) (fun _ _ _ _ => none) n x2 x3 x4 u = some (r0, σ0) → Fr wi_X3_slotInOrder wa_X3_slotInOrder wj_X3_slotInOrder u0 σ0 := by
    intro n
    induction n with
    | zero => intro x2 x3 x4 u hfr hF; exact absurd (show (none : Option (Int32 × q_St)) = some _ from hF) (fun h => nomatch h)
    | succ n hi72 =>
      intro x2 x3 x4 u hfr hF
      obtain ⟨ih72, hih⟩ : ∃ q, q = q_lp (fX3_slotInOrder_b72 L N) (fun _ _ _ _ => none) n := ⟨_, rfl⟩
      rw [← hih] at hi72
      have hF : fX3_slotInOrder_b72 L N (q_lp (fX3_slotInOrder_b72 L N) (fun _ _ _ _ => none) n) x2 x3 x4 u = some (r0, σ0) := hF
      rw [← hih] at hF
      clear hih
      unfold fX3_slotInOrder_b72 at hF
      rcases fr_if hF with hF | hF
      · cases hF; exact hfr
      · exact hB84 ih72 hi72 N x2 x3 x4 0 0 u hfr hF
  have hB69 : ∀ (x2 : Int32) (x3 : Int32) (u : q_St), Fr wi_X3_slotInOrder wa_X3_slotInOrder wj_X3_slotInOrder u0 u → fX3_slotInOrder_b69 L N x2 x3 u = some (r0, σ0) → Fr wi_X3_slotInOrder wa_X3_slotInOrder wj_X3_slotInOrder u0 σ0 := by
    intro x2 x3 u hfr hF
    unfold fX3_slotInOrder_b69 at hF
    exact hB72 N x2 x3 0 u hfr hF
  have hB63 : ∀ (ih5 : Int32 → Int32 → Int32 → Int32 → q_St → Option (Int32 × q_St)) (hi5 : ∀ (x1 : Int32) (x2 : Int32) (x3 : Int32) (x4 : Int32) (u : q_St), Fr wi_X3_slotInOrder wa_X3_slotInOrder wj_X3_slotInOrder u0 u → ih5 x1 x2 x3 x4 u = some (r0, σ0) → Fr wi_X3_slotInOrder wa_X3_slotInOrder wj_X3_slotInOrder u0 σ0), ∀ (x1 : Int32) (x2 : Int32) (x3 : Int32) (x4 : Int32) (u : q_St), Fr wi_X3_slotInOrder wa_X3_slotInOrder wj_X3_slotInOrder u0 u → fX3_slotInOrder_b63 L N ih5 x1 x2 x3 x4 u = some (r0, σ0) → Fr wi_X3_slotInOrder wa_X3_slotInOrder wj_X3_slotInOrder u0 σ0 := by
    intro ih5 hi5 x1 x2 x3 x4 u hfr hF
    unfold fX3_slotInOrder_b63 at hF
    obtain ⟨v10, hF⟩ := fr_nm hF
    exact hi5 x1 x2 x3 v10 u hfr hF
  have hB5 : ∀ (n : Nat) (x1 : Int32) (x2 : Int32) (x3 : Int32) (x4 : Int32) (u : q_St), Fr wi_X3_slotInOrder wa_X3_slotInOrder wj_X3_slotInOrder u0 u → q_lp (fX3_slotInOrder_b5 L N) (fun _ _ _ _ _ => none) n x1 x2 x3 x4 u = some (r0, σ0) → Fr wi_X3_slotInOrder wa_X3_slotInOrder wj_X3_slotInOrder u0 σ0 := by
    intro n
    induction n with
    | zero => intro x1 x2 x3 x4 u hfr hF; exact absurd (show (none : Option (Int32 × q_St)) = some _ from hF) (fun h => nomatch h)
    | succ n hi5 =>
      intro x1 x2 x3 x4 u hfr hF
      obtain ⟨ih5, hih⟩ : ∃ q, q = q_lp (fX3_slotInOrder_b5 L N) (fun _ _ _ _ _ => none) n := ⟨_, rfl⟩
      rw [← hih] at hi5
      have hF : fX3_slotInOrder_b5 L N (q_lp (fX3_slotInOrder_b5 L N) (fun _ _ _ _ _ => none) n) x1 x2 x3 x4 u = some (r0, σ0) := hF
      rw [← hih] at hF
      clear hih
      unfold fX3_slotInOrder_b5 at hF
      rcases fr_if hF with hF | hF
      · exact hB69 x2 x3 u hfr hF
      · rcases fr_if hF with hF | hF
        · exact hB69 x2 x3 u hfr hF
        · obtain ⟨r7, u8, hc9, hF⟩ := q_bnd_some hF
          have hfr := hfr.app (fr_X3_nameAt hc9) (by decide) (by decide) (by decide)
          rcases fr_if hF with hF | hF
          · exact hB63 ih5 hi5 x1 x2 x3 x4 u8 hfr hF
          · obtain ⟨r11, u12, hc13, hF⟩ := q_bnd_some hF
            have hfr := hfr.app (fr_X3_orderKey hc13) (by decide) (by decide) (by decide)
            obtain ⟨u14, hfr, hF⟩ := fr_wj hfr hF (by decide)
            obtain ⟨u15, hfr, hF⟩ := fr_wa hfr hF (by decide)
            obtain ⟨v16, hF⟩ := fr_nm hF
            exact hB63 ih5 hi5 x1 x2 v16 x4 u15 hfr hF
  unfold fX3_slotInOrder at hF
  have hfr := Fr.rf wi_X3_slotInOrder wa_X3_slotInOrder wj_X3_slotInOrder u0
  exact hB5 N o1 o2 0 0 u0 hfr hF
abbrev wi_X10_entry : List Nat := [13]
abbrev wa_X10_entry : List Nat := [7]
abbrev wj_X10_entry : List Nat := [4]
set_option maxHeartbeats 4000000 in
set_option maxRecDepth 100000 in
theorem fr_X10_entry {L : Nat → Nat} {N : Nat} {o1 : Int32} {o2 : Int32} {u0 σ0 : q_St} {r0 : Int32} (hF : fX10_entry L N o1 o2 u0 = some (r0, σ0)) : Fr wi_X10_entry wa_X10_entry wj_X10_entry u0 σ0 := by
  unfold fX10_entry at hF
  have hfr := Fr.rf wi_X10_entry wa_X10_entry wj_X10_entry u0
  obtain ⟨r1, u2, hc3, hF⟩ := q_bnd_some hF
  have hfr := hfr.app (fr_X10_refusalToList hc3) (by decide) (by decide) (by decide)
  rcases fr_if hF with hF | hF
  · obtain ⟨r4, u5, hc6, hF⟩ := q_bnd_some hF
    have hfr := hfr.app (fr_X3_slotInOrder hc6) (by decide) (by decide) (by decide)
    rcases fr_if hF with hF | hF
    · cases hF; exact hfr
    · obtain ⟨r7, u8, hc9, hF⟩ := q_bnd_some hF
      have hfr := hfr.app (fr_X3_nodeAt hc9) (by decide) (by decide) (by decide)
      cases hF; exact hfr
  · cases hF; exact hfr
abbrev wi_X10_name : List Nat := [13]
abbrev wa_X10_name : List Nat := [7]
abbrev wj_X10_name : List Nat := [4]
set_option maxHeartbeats 4000000 in
set_option maxRecDepth 100000 in
theorem fr_X10_name {L : Nat → Nat} {N : Nat} {o1 : Int32} {o2 : Int32} {u0 σ0 : q_St} {r0 : Int64} (hF : fX10_name L N o1 o2 u0 = some (r0, σ0)) : Fr wi_X10_name wa_X10_name wj_X10_name u0 σ0 := by
  unfold fX10_name at hF
  have hfr := Fr.rf wi_X10_name wa_X10_name wj_X10_name u0
  obtain ⟨r1, u2, hc3, hF⟩ := q_bnd_some hF
  have hfr := hfr.app (fr_X10_refusalToList hc3) (by decide) (by decide) (by decide)
  rcases fr_if hF with hF | hF
  · obtain ⟨r4, u5, hc6, hF⟩ := q_bnd_some hF
    have hfr := hfr.app (fr_X3_slotInOrder hc6) (by decide) (by decide) (by decide)
    rcases fr_if hF with hF | hF
    · cases hF; exact hfr
    · obtain ⟨r7, u8, hc9, hF⟩ := q_bnd_some hF
      have hfr := hfr.app (fr_X3_nameAt hc9) (by decide) (by decide) (by decide)
      cases hF; exact hfr
  · cases hF; exact hfr
abbrev wi_X10_kind : List Nat := [13]
abbrev wa_X10_kind : List Nat := []
abbrev wj_X10_kind : List Nat := []
set_option maxHeartbeats 4000000 in
set_option maxRecDepth 100000 in
theorem fr_X10_kind {L : Nat → Nat} {N : Nat} {o1 : Int32} {u0 σ0 : q_St} {r0 : Int32} (hF : fX10_kind L N o1 u0 = some (r0, σ0)) : Fr wi_X10_kind wa_X10_kind wj_X10_kind u0 σ0 := by
  unfold fX10_kind at hF
  have hfr := Fr.rf wi_X10_kind wa_X10_kind wj_X10_kind u0
  rcases fr_if hF with hF | hF
  · cases hF; exact hfr
  · obtain ⟨r1, u2, hc3, hF⟩ := q_bnd_some hF
    have hfr := hfr.app (fr_X4_isNumber hc3) (by decide) (by decide) (by decide)
    rcases fr_if hF with hF | hF
    · cases hF; exact hfr
    · obtain ⟨r4, u5, hc6, hF⟩ := q_bnd_some hF
      have hfr := hfr.app (fr_X4_kindOf hc6) (by decide) (by decide) (by decide)
      cases hF; exact hfr
abbrev wi_X10_refusalOfFree : List Nat := [13]
abbrev wa_X10_refusalOfFree : List Nat := []
abbrev wj_X10_refusalOfFree : List Nat := []
set_option maxHeartbeats 4000000 in
set_option maxRecDepth 100000 in
theorem fr_X10_refusalOfFree {L : Nat → Nat} {N : Nat} {o1 : Int32} {u0 σ0 : q_St} {r0 : Int32} (hF : fX10_refusalOfFree L N o1 u0 = some (r0, σ0)) : Fr wi_X10_refusalOfFree wa_X10_refusalOfFree wj_X10_refusalOfFree u0 σ0 := by
  unfold fX10_refusalOfFree at hF
  have hfr := Fr.rf wi_X10_refusalOfFree wa_X10_refusalOfFree wj_X10_refusalOfFree u0
  rcases fr_if hF with hF | hF
  · cases hF; exact hfr
  · obtain ⟨r1, u2, hc3, hF⟩ := q_bnd_some hF
    have hfr := hfr.app (fr_X4_kindOf hc3) (by decide) (by decide) (by decide)
    rcases fr_if hF with hF | hF
    · cases hF; exact hfr
    · cases hF; exact hfr
abbrev wi_X10_size : List Nat := [13]
abbrev wa_X10_size : List Nat := []
abbrev wj_X10_size : List Nat := []
set_option maxHeartbeats 4000000 in
set_option maxRecDepth 100000 in
theorem fr_X10_size {L : Nat → Nat} {N : Nat} {o1 : Int32} {u0 σ0 : q_St} {r0 : Int32} (hF : fX10_size L N o1 u0 = some (r0, σ0)) : Fr wi_X10_size wa_X10_size wj_X10_size u0 σ0 := by
  unfold fX10_size at hF
  have hfr := Fr.rf wi_X10_size wa_X10_size wj_X10_size u0
  obtain ⟨r1, u2, hc3, hF⟩ := q_bnd_some hF
  have hfr := hfr.app (fr_X10_refusalOfFree hc3) (by decide) (by decide) (by decide)
  rcases fr_if hF with hF | hF
  · obtain ⟨r4, u5, hc6, hF⟩ := q_bnd_some hF
    have hfr := hfr.app (fr_X4_kindOf hc6) (by decide) (by decide) (by decide)
    rcases fr_if hF with hF | hF
    · obtain ⟨r10, u11, hc12, hF⟩ := q_bnd_some hF
      have hfr := hfr.app (fr_X3_nameCount hc12) (by decide) (by decide) (by decide)
      cases hF; exact hfr
    · obtain ⟨r7, u8, hc9, hF⟩ := q_bnd_some hF
      have hfr := hfr.app (fr_X0_byteCount hc9) (by decide) (by decide) (by decide)
      cases hF; exact hfr
  · cases hF; exact hfr
abbrev wi_X4_modeOf : List Nat := [13]
abbrev wa_X4_modeOf : List Nat := []
abbrev wj_X4_modeOf : List Nat := []
set_option maxHeartbeats 4000000 in
set_option maxRecDepth 100000 in
theorem fr_X4_modeOf {L : Nat → Nat} {N : Nat} {o1 : Int32} {u0 σ0 : q_St} {r0 : Int32} (hF : fX4_modeOf L N o1 u0 = some (r0, σ0)) : Fr wi_X4_modeOf wa_X4_modeOf wj_X4_modeOf u0 σ0 := by
  unfold fX4_modeOf at hF
  have hfr := Fr.rf wi_X4_modeOf wa_X4_modeOf wj_X4_modeOf u0
  obtain ⟨r1, u2, hc3, hF⟩ := q_bnd_some hF
  have hfr := hfr.app (fr_X6_octet hc3) (by decide) (by decide) (by decide)
  cases hF; exact hfr
abbrev wi_X4_setMode : List Nat := [13, 22]
abbrev wa_X4_setMode : List Nat := [5]
abbrev wj_X4_setMode : List Nat := [2]
set_option maxHeartbeats 4000000 in
set_option maxRecDepth 100000 in
theorem fr_X4_setMode {L : Nat → Nat} {N : Nat} {o1 : Int32} {o2 : Int32} {u0 σ0 : q_St} {r0 : Unit} (hF : fX4_setMode L N o1 o2 u0 = some (r0, σ0)) : Fr wi_X4_setMode wa_X4_setMode wj_X4_setMode u0 σ0 := by
  unfold fX4_setMode at hF
  have hfr := Fr.rf wi_X4_setMode wa_X4_setMode wj_X4_setMode u0
  obtain ⟨r1, u2, hc3, hF⟩ := q_bnd_some hF
  have hfr := hfr.app (fr_X6_setOctet hc3) (by decide) (by decide) (by decide)
  cases hF; exact hfr
abbrev wi_X4_ownerOf : List Nat := [13]
abbrev wa_X4_ownerOf : List Nat := []
abbrev wj_X4_ownerOf : List Nat := []
set_option maxHeartbeats 4000000 in
set_option maxRecDepth 100000 in
theorem fr_X4_ownerOf {L : Nat → Nat} {N : Nat} {o1 : Int32} {u0 σ0 : q_St} {r0 : Int32} (hF : fX4_ownerOf L N o1 u0 = some (r0, σ0)) : Fr wi_X4_ownerOf wa_X4_ownerOf wj_X4_ownerOf u0 σ0 := by
  unfold fX4_ownerOf at hF
  have hfr := Fr.rf wi_X4_ownerOf wa_X4_ownerOf wj_X4_ownerOf u0
  obtain ⟨r1, u2, hc3, hF⟩ := q_bnd_some hF
  have hfr := hfr.app (fr_X6_octet hc3) (by decide) (by decide) (by decide)
  cases hF; exact hfr
abbrev wi_X10_mode : List Nat := [7, 8, 9, 10, 11, 12, 13, 14, 15, 16, 17, 18, 19, 21, 22, 23, 24]
abbrev wa_X10_mode : List Nat := [0, 1, 2, 3, 4, 5, 6]
abbrev wj_X10_mode : List Nat := [0, 2, 3]
set_option maxHeartbeats 4000000 in
set_option maxRecDepth 100000 in
theorem fr_X10_mode {L : Nat → Nat} {N : Nat} {o1 : Int32} {o2 : Int32} {u0 σ0 : q_St} {r0 : Int32} (hF : fX10_mode L N o1 o2 u0 = some (r0, σ0)) : Fr wi_X10_mode wa_X10_mode wj_X10_mode u0 σ0 := by
  have hB77 : ∀ (x1 : Int32) (x2 : Int32) (u : q_St), Fr wi_X10_mode wa_X10_mode wj_X10_mode u0 u → fX10_mode_b77 L N x1 x2 u = some (r0, σ0) → Fr wi_X10_mode wa_X10_mode wj_X10_mode u0 σ0 := by
    intro x1 x2 u hfr hF
    unfold fX10_mode_b77 at hF
    obtain ⟨r10, u11, hc12, hF⟩ := q_bnd_some hF
    have hfr := hfr.app (fr_X4_modeOf hc12) (by decide) (by decide) (by decide)
    rcases fr_if hF with hF | hF
    · cases hF; exact hfr
    · obtain ⟨r13, u14, hc15, hF⟩ := q_bnd_some hF
      have hfr := hfr.app (fr_X4_setMode hc15) (by decide) (by decide) (by decide)
      cases hF; exact hfr
  unfold fX10_mode at hF
  have hfr := Fr.rf wi_X10_mode wa_X10_mode wj_X10_mode u0
  obtain ⟨r1, u2, hc3, hF⟩ := q_bnd_some hF
  have hfr := hfr.app (fr_X6_commitOver hc3) (by decide) (by decide) (by decide)
  rcases fr_if hF with hF | hF
  · cases hF; exact hfr
  · obtain ⟨r4, u5, hc6, hF⟩ := q_bnd_some hF
    have hfr := hfr.app (fr_X10_refusalOfFree hc6) (by decide) (by decide) (by decide)
    rcases fr_if hF with hF | hF
    · obtain ⟨r7, u8, hc9, hF⟩ := q_bnd_some hF
      have hfr := hfr.app (fr_X4_kindOf hc9) (by decide) (by decide) (by decide)
      rcases fr_if hF with hF | hF
      · cases hF; exact hfr
      · rcases fr_if hF with hF | hF
        · cases hF; exact hfr
        · rcases fr_if hF with hF | hF
          · rcases fr_if hF with hF | hF
            · exact hB77 o1 o2 u8 hfr hF
            · obtain ⟨r16, u17, hc18, hF⟩ := q_bnd_some hF
              have hfr := hfr.app (fr_X4_ownerOf hc18) (by decide) (by decide) (by decide)
              rcases fr_if hF with hF | hF
              · exact hB77 o1 o2 u17 hfr hF
              · cases hF; exact hfr
          · cases hF; exact hfr
    · cases hF; exact hfr
abbrev wi_X4_setOwner : List Nat := [13, 22]
abbrev wa_X4_setOwner : List Nat := [5]
abbrev wj_X4_setOwner : List Nat := [2]
set_option maxHeartbeats 4000000 in
set_option maxRecDepth 100000 in
theorem fr_X4_setOwner {L : Nat → Nat} {N : Nat} {o1 : Int32} {o2 : Int32} {u0 σ0 : q_St} {r0 : Unit} (hF : fX4_setOwner L N o1 o2 u0 = some (r0, σ0)) : Fr wi_X4_setOwner wa_X4_setOwner wj_X4_setOwner u0 σ0 := by
  unfold fX4_setOwner at hF
  have hfr := Fr.rf wi_X4_setOwner wa_X4_setOwner wj_X4_setOwner u0
  obtain ⟨r1, u2, hc3, hF⟩ := q_bnd_some hF
  have hfr := hfr.app (fr_X6_setOctet hc3) (by decide) (by decide) (by decide)
  cases hF; exact hfr
abbrev wi_X10_give : List Nat := [7, 8, 9, 10, 11, 12, 13, 14, 15, 16, 17, 18, 19, 21, 22, 23, 24]
abbrev wa_X10_give : List Nat := [0, 1, 2, 3, 4, 5, 6]
abbrev wj_X10_give : List Nat := [0, 2, 3]
set_option maxHeartbeats 4000000 in
set_option maxRecDepth 100000 in
theorem fr_X10_give {L : Nat → Nat} {N : Nat} {o1 : Int32} {o2 : Int32} {u0 σ0 : q_St} {r0 : Int32} (hF : fX10_give L N o1 o2 u0 = some (r0, σ0)) : Fr wi_X10_give wa_X10_give wj_X10_give u0 σ0 := by
  unfold fX10_give at hF
  have hfr := Fr.rf wi_X10_give wa_X10_give wj_X10_give u0
  obtain ⟨r1, u2, hc3, hF⟩ := q_bnd_some hF
  have hfr := hfr.app (fr_X6_commitOver hc3) (by decide) (by decide) (by decide)
  rcases fr_if hF with hF | hF
  · cases hF; exact hfr
  · obtain ⟨r4, u5, hc6, hF⟩ := q_bnd_some hF
    have hfr := hfr.app (fr_X10_refusalOfFree hc6) (by decide) (by decide) (by decide)
    rcases fr_if hF with hF | hF
    · rcases fr_if hF with hF | hF
      · cases hF; exact hfr
      · rcases fr_if hF with hF | hF
        · rcases fr_if hF with hF | hF
          · obtain ⟨r7, u8, hc9, hF⟩ := q_bnd_some hF
            have hfr := hfr.app (fr_X4_ownerOf hc9) (by decide) (by decide) (by decide)
            rcases fr_if hF with hF | hF
            · cases hF; exact hfr
            · obtain ⟨r10, u11, hc12, hF⟩ := q_bnd_some hF
              have hfr := hfr.app (fr_X4_setOwner hc12) (by decide) (by decide) (by decide)
              cases hF; exact hfr
          · cases hF; exact hfr
        · cases hF; exact hfr
    · cases hF; exact hfr
abbrev wi_X10_rights : List Nat := [13]
abbrev wa_X10_rights : List Nat := []
abbrev wj_X10_rights : List Nat := []
set_option maxHeartbeats 4000000 in
set_option maxRecDepth 100000 in
theorem fr_X10_rights {L : Nat → Nat} {N : Nat} {o1 : Int32} {o2 : Int32} {u0 σ0 : q_St} {r0 : Int32} (hF : fX10_rights L N o1 o2 u0 = some (r0, σ0)) : Fr wi_X10_rights wa_X10_rights wj_X10_rights u0 σ0 := by
  unfold fX10_rights at hF
  have hfr := Fr.rf wi_X10_rights wa_X10_rights wj_X10_rights u0
  obtain ⟨r1, u2, hc3, hF⟩ := q_bnd_some hF
  have hfr := hfr.app (fr_X10_refusalOfFree hc3) (by decide) (by decide) (by decide)
  rcases fr_if hF with hF | hF
  · rcases fr_if hF with hF | hF
    · obtain ⟨r10, u11, hc12, hF⟩ := q_bnd_some hF
      have hfr := hfr.app (fr_X4_ownerOf hc12) (by decide) (by decide) (by decide)
      cases hF; exact hfr
    · rcases fr_if hF with hF | hF
      · obtain ⟨r4, u5, hc6, hF⟩ := q_bnd_some hF
        have hfr := hfr.app (fr_X4_kindOf hc6) (by decide) (by decide) (by decide)
        rcases fr_if hF with hF | hF
        · cases hF; exact hfr
        · obtain ⟨r7, u8, hc9, hF⟩ := q_bnd_some hF
          have hfr := hfr.app (fr_X4_modeOf hc9) (by decide) (by decide) (by decide)
          cases hF; exact hfr
      · cases hF; exact hfr
  · cases hF; exact hfr
abbrev wi_X10_links : List Nat := [13]
abbrev wa_X10_links : List Nat := []
abbrev wj_X10_links : List Nat := []
set_option maxHeartbeats 4000000 in
set_option maxRecDepth 100000 in
theorem fr_X10_links {L : Nat → Nat} {N : Nat} {o1 : Int32} {u0 σ0 : q_St} {r0 : Int32} (hF : fX10_links L N o1 u0 = some (r0, σ0)) : Fr wi_X10_links wa_X10_links wj_X10_links u0 σ0 := by
  unfold fX10_links at hF
  have hfr := Fr.rf wi_X10_links wa_X10_links wj_X10_links u0
  rcases fr_if hF with hF | hF
  · cases hF; exact hfr
  · obtain ⟨r1, u2, hc3, hF⟩ := q_bnd_some hF
    have hfr := hfr.app (fr_X4_hasLinks hc3) (by decide) (by decide) (by decide)
    rcases fr_if hF with hF | hF
    · cases hF; exact hfr
    · obtain ⟨r4, u5, hc6, hF⟩ := q_bnd_some hF
      have hfr := hfr.app (fr_X4_linksOf hc6) (by decide) (by decide) (by decide)
      cases hF; exact hfr
abbrev wi_X10_parent : List Nat := [13]
abbrev wa_X10_parent : List Nat := []
abbrev wj_X10_parent : List Nat := []
set_option maxHeartbeats 4000000 in
set_option maxRecDepth 100000 in
theorem fr_X10_parent {L : Nat → Nat} {N : Nat} {o1 : Int32} {u0 σ0 : q_St} {r0 : Int32} (hF : fX10_parent L N o1 u0 = some (r0, σ0)) : Fr wi_X10_parent wa_X10_parent wj_X10_parent u0 σ0 := by
  unfold fX10_parent at hF
  have hfr := Fr.rf wi_X10_parent wa_X10_parent wj_X10_parent u0
  rcases fr_if hF with hF | hF
  · cases hF; exact hfr
  · obtain ⟨r1, u2, hc3, hF⟩ := q_bnd_some hF
    have hfr := hfr.app (fr_X4_kindOf hc3) (by decide) (by decide) (by decide)
    rcases fr_if hF with hF | hF
    · obtain ⟨r4, u5, hc6, hF⟩ := q_bnd_some hF
      have hfr := hfr.app (fr_X4_holderOf hc6) (by decide) (by decide) (by decide)
      cases hF; exact hfr
    · cases hF; exact hfr
abbrev wi_X0_blockOf : List Nat := [13]
abbrev wa_X0_blockOf : List Nat := []
abbrev wj_X0_blockOf : List Nat := []
set_option maxHeartbeats 4000000 in
set_option maxRecDepth 100000 in
theorem fr_X0_blockOf {L : Nat → Nat} {N : Nat} {o1 : Int32} {o2 : Int32} {u0 σ0 : q_St} {r0 : Int32} (hF : fX0_blockOf L N o1 o2 u0 = some (r0, σ0)) : Fr wi_X0_blockOf wa_X0_blockOf wj_X0_blockOf u0 σ0 := by
  have hB24 : ∀ (u : q_St), Fr wi_X0_blockOf wa_X0_blockOf wj_X0_blockOf u0 u → fX0_blockOf_b24 L N u = some (r0, σ0) → Fr wi_X0_blockOf wa_X0_blockOf wj_X0_blockOf u0 σ0 := by
    intro u hfr hF
    unfold fX0_blockOf_b24 at hF
    cases hF; exact hfr
  unfold fX0_blockOf at hF
  have hfr := Fr.rf wi_X0_blockOf wa_X0_blockOf wj_X0_blockOf u0
  obtain ⟨r1, u2, hc3, hF⟩ := q_bnd_some hF
  have hfr := hfr.app (fr_X4_kindOf hc3) (by decide) (by decide) (by decide)
  rcases fr_if hF with hF | hF
  · rcases fr_if hF with hF | hF
    · exact hB24 u2 hfr hF
    · rcases fr_if hF with hF | hF
      · obtain ⟨r25, u26, hc27, hF⟩ := q_bnd_some hF
        have hfr := hfr.app (fr_X4_sectorOf hc27) (by decide) (by decide) (by decide)
        obtain ⟨r28, u29, hc30, hF⟩ := q_bnd_some hF
        have hfr := hfr.app (fr_X6_half hc30) (by decide) (by decide) (by decide)
        cases hF; exact hfr
      · exact hB24 u2 hfr hF
  · rcases fr_if hF with hF | hF
    · obtain ⟨r22, u23, hc24, hF⟩ := q_bnd_some hF
      have hfr := hfr.app (fr_X0_laidBlock hc24) (by decide) (by decide) (by decide)
      cases hF; exact hfr
    · rcases fr_if hF with hF | hF
      · rcases fr_if hF with hF | hF
        · obtain ⟨r16, u17, hc18, hF⟩ := q_bnd_some hF
          have hfr := hfr.app (fr_X4_sectorOf hc18) (by decide) (by decide) (by decide)
          obtain ⟨r19, u20, hc21, hF⟩ := q_bnd_some hF
          have hfr := hfr.app (fr_X6_half hc21) (by decide) (by decide) (by decide)
          cases hF; exact hfr
        · rcases fr_if hF with hF | hF
          · obtain ⟨r10, u11, hc12, hF⟩ := q_bnd_some hF
            have hfr := hfr.app (fr_X4_sectorOf hc12) (by decide) (by decide) (by decide)
            obtain ⟨r13, u14, hc15, hF⟩ := q_bnd_some hF
            have hfr := hfr.app (fr_X6_half hc15) (by decide) (by decide) (by decide)
            cases hF; exact hfr
          · rcases fr_if hF with hF | hF
            · obtain ⟨r4, u5, hc6, hF⟩ := q_bnd_some hF
              have hfr := hfr.app (fr_X0_pieceBlock hc6) (by decide) (by decide) (by decide)
              cases hF; exact hfr
            · obtain ⟨r7, u8, hc9, hF⟩ := q_bnd_some hF
              have hfr := hfr.app (fr_X0_farIndex hc9) (by decide) (by decide) (by decide)
              cases hF; exact hfr
      · cases hF; exact hfr
abbrev wi_X10_block : List Nat := [13]
abbrev wa_X10_block : List Nat := []
abbrev wj_X10_block : List Nat := []
set_option maxHeartbeats 4000000 in
set_option maxRecDepth 100000 in
theorem fr_X10_block {L : Nat → Nat} {N : Nat} {o1 : Int32} {o2 : Int32} {u0 σ0 : q_St} {r0 : Int32} (hF : fX10_block L N o1 o2 u0 = some (r0, σ0)) : Fr wi_X10_block wa_X10_block wj_X10_block u0 σ0 := by
  unfold fX10_block at hF
  have hfr := Fr.rf wi_X10_block wa_X10_block wj_X10_block u0
  rcases fr_if hF with hF | hF
  · cases hF; exact hfr
  · obtain ⟨r1, u2, hc3, hF⟩ := q_bnd_some hF
    have hfr := hfr.app (fr_X0_blockOf hc3) (by decide) (by decide) (by decide)
    rcases fr_if hF with hF | hF
    · cases hF; exact hfr
    · cases hF; exact hfr
abbrev wi_X0_byteOf : List Nat := [13]
abbrev wa_X0_byteOf : List Nat := []
abbrev wj_X0_byteOf : List Nat := []
set_option maxHeartbeats 4000000 in
set_option maxRecDepth 100000 in
theorem fr_X0_byteOf {L : Nat → Nat} {N : Nat} {o1 : Int32} {o2 : Int32} {u0 σ0 : q_St} {r0 : Int32} (hF : fX0_byteOf L N o1 o2 u0 = some (r0, σ0)) : Fr wi_X0_byteOf wa_X0_byteOf wj_X0_byteOf u0 σ0 := by
  have hB60 : ∀ (x2 : Int32) (y0 : Int32) (u : q_St), Fr wi_X0_byteOf wa_X0_byteOf wj_X0_byteOf u0 u → fX0_byteOf_b60 L N x2 y0 u = some (r0, σ0) → Fr wi_X0_byteOf wa_X0_byteOf wj_X0_byteOf u0 σ0 := by
    intro x2 y0 u hfr hF
    unfold fX0_byteOf_b60 at hF
    rcases fr_if hF with hF | hF
    · cases hF; exact hfr
    · obtain ⟨r7, u8, hc9, hF⟩ := q_bnd_some hF
      have hfr := hfr.app (fr_X6_octet hc9) (by decide) (by decide) (by decide)
      cases hF; exact hfr
  unfold fX0_byteOf at hF
  have hfr := Fr.rf wi_X0_byteOf wa_X0_byteOf wj_X0_byteOf u0
  obtain ⟨r1, u2, hc3, hF⟩ := q_bnd_some hF
  have hfr := hfr.app (fr_X4_kindOf hc3) (by decide) (by decide) (by decide)
  rcases fr_if hF with hF | hF
  · obtain ⟨r13, u14, hc15, hF⟩ := q_bnd_some hF
    have hfr := hfr.app (fr_X4_sectorOf hc15) (by decide) (by decide) (by decide)
    obtain ⟨r16, u17, hc18, hF⟩ := q_bnd_some hF
    have hfr := hfr.app (fr_X6_octet hc18) (by decide) (by decide) (by decide)
    cases hF; exact hfr
  · rcases fr_if hF with hF | hF
    · obtain ⟨r10, u11, hc12, hF⟩ := q_bnd_some hF
      have hfr := hfr.app (fr_X0_laidBlock hc12) (by decide) (by decide) (by decide)
      exact hB60 o2 r10 u11 hfr hF
    · obtain ⟨r4, u5, hc6, hF⟩ := q_bnd_some hF
      have hfr := hfr.app (fr_X0_pieceBlock hc6) (by decide) (by decide) (by decide)
      exact hB60 o2 r4 u5 hfr hF
abbrev wi_X10_byteAt : List Nat := [13]
abbrev wa_X10_byteAt : List Nat := []
abbrev wj_X10_byteAt : List Nat := []
set_option maxHeartbeats 4000000 in
set_option maxRecDepth 100000 in
theorem fr_X10_byteAt {L : Nat → Nat} {N : Nat} {o1 : Int32} {o2 : Int32} {u0 σ0 : q_St} {r0 : Int32} (hF : fX10_byteAt L N o1 o2 u0 = some (r0, σ0)) : Fr wi_X10_byteAt wa_X10_byteAt wj_X10_byteAt u0 σ0 := by
  have hB80 : ∀ (u : q_St), Fr wi_X10_byteAt wa_X10_byteAt wj_X10_byteAt u0 u → fX10_byteAt_b80 L N u = some (r0, σ0) → Fr wi_X10_byteAt wa_X10_byteAt wj_X10_byteAt u0 σ0 := by
    intro u hfr hF
    unfold fX10_byteAt_b80 at hF
    cases hF; exact hfr
  have hB64 : ∀ (x1 : Int32) (x2 : Int32) (u : q_St), Fr wi_X10_byteAt wa_X10_byteAt wj_X10_byteAt u0 u → fX10_byteAt_b64 L N x1 x2 u = some (r0, σ0) → Fr wi_X10_byteAt wa_X10_byteAt wj_X10_byteAt u0 σ0 := by
    intro x1 x2 u hfr hF
    unfold fX10_byteAt_b64 at hF
    rcases fr_if hF with hF | hF
    · exact hB80 u hfr hF
    · obtain ⟨r4, u5, hc6, hF⟩ := q_bnd_some hF
      have hfr := hfr.app (fr_X0_byteCount hc6) (by decide) (by decide) (by decide)
      rcases fr_if hF with hF | hF
      · obtain ⟨r7, u8, hc9, hF⟩ := q_bnd_some hF
        have hfr := hfr.app (fr_X0_byteOf hc9) (by decide) (by decide) (by decide)
        cases hF; exact hfr
      · exact hB80 u5 hfr hF
  have hB40 : ∀ (x1 : Int32) (x2 : Int32) (x3 : Int32) (u : q_St), Fr wi_X10_byteAt wa_X10_byteAt wj_X10_byteAt u0 u → fX10_byteAt_b40 L N x1 x2 x3 u = some (r0, σ0) → Fr wi_X10_byteAt wa_X10_byteAt wj_X10_byteAt u0 σ0 := by
    intro x1 x2 x3 u hfr hF
    unfold fX10_byteAt_b40 at hF
    rcases fr_if hF with hF | hF
    · exact hB64 x1 x2 u hfr hF
    · obtain ⟨r10, u11, hc12, hF⟩ := q_bnd_some hF
      have hfr := hfr.app (fr_X4_may hc12) (by decide) (by decide) (by decide)
      rcases fr_if hF with hF | hF
      · cases hF; exact hfr
      · exact hB64 x1 x2 u11 hfr hF
  unfold fX10_byteAt at hF
  have hfr := Fr.rf wi_X10_byteAt wa_X10_byteAt wj_X10_byteAt u0
  rcases fr_if hF with hF | hF
  · cases hF; exact hfr
  · obtain ⟨r1, u2, hc3, hF⟩ := q_bnd_some hF
    have hfr := hfr.app (fr_X4_kindOf hc3) (by decide) (by decide) (by decide)
    rcases fr_if hF with hF | hF
    · exact hB40 o1 o2 r1 u2 hfr hF
    · rcases fr_if hF with hF | hF
      · exact hB40 o1 o2 r1 u2 hfr hF
      · rcases fr_if hF with hF | hF
        · exact hB40 o1 o2 r1 u2 hfr hF
        · cases hF; exact hfr
abbrev wi_J7_fill_29 : List Nat := []
abbrev wa_J7_fill_29 : List Nat := [12]
abbrev wj_J7_fill_29 : List Nat := []
set_option maxHeartbeats 4000000 in
set_option maxRecDepth 100000 in
theorem fr_J7_fill_29 {L : Nat → Nat} {N : Nat} {o1 : Int32} {u0 σ0 : q_St} {r0 : Unit} (hF : fJ7_fill_29 L N o1 u0 = some (r0, σ0)) : Fr wi_J7_fill_29 wa_J7_fill_29 wj_J7_fill_29 u0 σ0 := by
  have hB5 : ∀ (n : Nat) (x1 : Int32) (x2 : Int32) (x3 : Int32) (u : q_St), Fr wi_J7_fill_29 wa_J7_fill_29 wj_J7_fill_29 u0 u → q_lp (fJ7_fill_29_b5 L N) (fun _ _ _ _ => none) n x1 x2 x3 u = some (r0, σ0) → Fr wi_J7_fill_29 wa_J7_fill_29 wj_J7_fill_29 u0 σ0 := by
    intro n
    induction n with
    | zero => intro x1 x2 x3 u hfr hF; exact absurd (show (none : Option (Unit × q_St)) = some _ from hF) (fun h => nomatch h)
    | succ n hi5 =>
      intro x1 x2 x3 u hfr hF
      obtain ⟨ih5, hih⟩ : ∃ q, q = q_lp (fJ7_fill_29_b5 L N) (fun _ _ _ _ => none) n := ⟨_, rfl⟩
      rw [← hih] at hi5
      have hF : fJ7_fill_29_b5 L N (q_lp (fJ7_fill_29_b5 L N) (fun _ _ _ _ => none) n) x1 x2 x3 u = some (r0, σ0) := hF
      rw [← hih] at hF
      clear hih
      unfold fJ7_fill_29_b5 at hF
      rcases fr_if hF with hF | hF
      · cases hF; exact hfr
      · obtain ⟨u2, hfr, hF⟩ := fr_wa hfr hF (by decide)
        obtain ⟨v3, hF⟩ := fr_nm hF
        exact hi5 x1 v3 x3 u2 hfr hF
  unfold fJ7_fill_29 at hF
  have hfr := Fr.rf wi_J7_fill_29 wa_J7_fill_29 wj_J7_fill_29 u0
  obtain ⟨v1, hF⟩ := fr_nm hF
  exact hB5 N o1 0 v1 u0 hfr hF
abbrev wi_J7_fill_30 : List Nat := []
abbrev wa_J7_fill_30 : List Nat := [13]
abbrev wj_J7_fill_30 : List Nat := []
set_option maxHeartbeats 4000000 in
set_option maxRecDepth 100000 in
theorem fr_J7_fill_30 {L : Nat → Nat} {N : Nat} {o1 : Int32} {u0 σ0 : q_St} {r0 : Unit} (hF : fJ7_fill_30 L N o1 u0 = some (r0, σ0)) : Fr wi_J7_fill_30 wa_J7_fill_30 wj_J7_fill_30 u0 σ0 := by
  have hB5 : ∀ (n : Nat) (x1 : Int32) (x2 : Int32) (x3 : Int32) (u : q_St), Fr wi_J7_fill_30 wa_J7_fill_30 wj_J7_fill_30 u0 u → q_lp (fJ7_fill_30_b5 L N) (fun _ _ _ _ => none) n x1 x2 x3 u = some (r0, σ0) → Fr wi_J7_fill_30 wa_J7_fill_30 wj_J7_fill_30 u0 σ0 := by
    intro n
    induction n with
    | zero => intro x1 x2 x3 u hfr hF; exact absurd (show (none : Option (Unit × q_St)) = some _ from hF) (fun h => nomatch h)
    | succ n hi5 =>
      intro x1 x2 x3 u hfr hF
      obtain ⟨ih5, hih⟩ : ∃ q, q = q_lp (fJ7_fill_30_b5 L N) (fun _ _ _ _ => none) n := ⟨_, rfl⟩
      rw [← hih] at hi5
      have hF : fJ7_fill_30_b5 L N (q_lp (fJ7_fill_30_b5 L N) (fun _ _ _ _ => none) n) x1 x2 x3 u = some (r0, σ0) := hF
      rw [← hih] at hF
      clear hih
      unfold fJ7_fill_30_b5 at hF
      rcases fr_if hF with hF | hF
      · cases hF; exact hfr
      · obtain ⟨u2, hfr, hF⟩ := fr_wa hfr hF (by decide)
        obtain ⟨v3, hF⟩ := fr_nm hF
        exact hi5 x1 v3 x3 u2 hfr hF
  unfold fJ7_fill_30 at hF
  have hfr := Fr.rf wi_J7_fill_30 wa_J7_fill_30 wj_J7_fill_30 u0
  obtain ⟨v1, hF⟩ := fr_nm hF
  exact hB5 N o1 0 v1 u0 hfr hF
abbrev wi_J7_fill_31 : List Nat := []
abbrev wa_J7_fill_31 : List Nat := [14]
abbrev wj_J7_fill_31 : List Nat := []
set_option maxHeartbeats 4000000 in
set_option maxRecDepth 100000 in
theorem fr_J7_fill_31 {L : Nat → Nat} {N : Nat} {o1 : Int32} {u0 σ0 : q_St} {r0 : Unit} (hF : fJ7_fill_31 L N o1 u0 = some (r0, σ0)) : Fr wi_J7_fill_31 wa_J7_fill_31 wj_J7_fill_31 u0 σ0 := by
  have hB5 : ∀ (n : Nat) (x1 : Int32) (x2 : Int32) (x3 : Int32) (u : q_St), Fr wi_J7_fill_31 wa_J7_fill_31 wj_J7_fill_31 u0 u → q_lp (fJ7_fill_31_b5 L N) (fun _ _ _ _ => none) n x1 x2 x3 u = some (r0, σ0) → Fr wi_J7_fill_31 wa_J7_fill_31 wj_J7_fill_31 u0 σ0 := by
    intro n
    induction n with
    | zero => intro x1 x2 x3 u hfr hF; exact absurd (show (none : Option (Unit × q_St)) = some _ from hF) (fun h => nomatch h)
    | succ n hi5 =>
      intro x1 x2 x3 u hfr hF
      obtain ⟨ih5, hih⟩ : ∃ q, q = q_lp (fJ7_fill_31_b5 L N) (fun _ _ _ _ => none) n := ⟨_, rfl⟩
      rw [← hih] at hi5
      have hF : fJ7_fill_31_b5 L N (q_lp (fJ7_fill_31_b5 L N) (fun _ _ _ _ => none) n) x1 x2 x3 u = some (r0, σ0) := hF
      rw [← hih] at hF
      clear hih
      unfold fJ7_fill_31_b5 at hF
      rcases fr_if hF with hF | hF
      · cases hF; exact hfr
      · obtain ⟨u2, hfr, hF⟩ := fr_wa hfr hF (by decide)
        obtain ⟨v3, hF⟩ := fr_nm hF
        exact hi5 x1 v3 x3 u2 hfr hF
  unfold fJ7_fill_31 at hF
  have hfr := Fr.rf wi_J7_fill_31 wa_J7_fill_31 wj_J7_fill_31 u0
  obtain ⟨v1, hF⟩ := fr_nm hF
  exact hB5 N o1 0 v1 u0 hfr hF
abbrev wi_X1_expect : List Nat := [40]
abbrev wa_X1_expect : List Nat := []
abbrev wj_X1_expect : List Nat := []
set_option maxHeartbeats 4000000 in
set_option maxRecDepth 100000 in
theorem fr_X1_expect {L : Nat → Nat} {N : Nat} {o1 : Int32} {u0 σ0 : q_St} {r0 : Unit} (hF : fX1_expect L N o1 u0 = some (r0, σ0)) : Fr wi_X1_expect wa_X1_expect wj_X1_expect u0 σ0 := by
  unfold fX1_expect at hF
  have hfr := Fr.rf wi_X1_expect wa_X1_expect wj_X1_expect u0
  rcases fr_if hF with hF | hF
  · obtain ⟨u1, hfr, hF⟩ := fr_si hfr hF (by decide)
    cases hF; exact hfr
  · cases hF; exact hfr
abbrev wi_X1_isHeldRight : List Nat := [13]
abbrev wa_X1_isHeldRight : List Nat := []
abbrev wj_X1_isHeldRight : List Nat := []
set_option maxHeartbeats 4000000 in
set_option maxRecDepth 100000 in
theorem fr_X1_isHeldRight {L : Nat → Nat} {N : Nat} {o1 : Int32} {u0 σ0 : q_St} {r0 : Int32} (hF : fX1_isHeldRight L N o1 u0 = some (r0, σ0)) : Fr wi_X1_isHeldRight wa_X1_isHeldRight wj_X1_isHeldRight u0 σ0 := by
  unfold fX1_isHeldRight at hF
  have hfr := Fr.rf wi_X1_isHeldRight wa_X1_isHeldRight wj_X1_isHeldRight u0
  rcases fr_if hF with hF | hF
  · cases hF; exact hfr
  · rcases fr_if hF with hF | hF
    · cases hF; exact hfr
    · rcases fr_if hF with hF | hF
      · obtain ⟨r1, u2, hc3, hF⟩ := q_bnd_some hF
        have hfr := hfr.app (fr_X4_kindOf hc3) (by decide) (by decide) (by decide)
        rcases fr_if hF with hF | hF
        · obtain ⟨v4, hF⟩ := fr_rd hF
          rcases fr_if hF with hF | hF
          · cases hF; exact hfr
          · cases hF; exact hfr
        rcases fr_if hF with hF | hF
        · rcases fr_if hF with hF | hF
          · obtain ⟨v13, hF⟩ := fr_rd hF
            rcases fr_if hF with hF | hF
            · obtain ⟨r14, u15, hc16, hF⟩ := q_bnd_some hF
              have hfr := hfr.app (fr_X4_holderOf hc16) (by decide) (by decide) (by decide)
              rcases fr_if hF with hF | hF
              · cases hF; exact hfr
              · cases hF; exact hfr
            · cases hF; exact hfr
          · obtain ⟨v5, hF⟩ := fr_rd hF
            rcases fr_if hF with hF | hF
            · obtain ⟨r6, u7, hc8, hF⟩ := q_bnd_some hF
              have hfr := hfr.app (fr_X4_holderOf hc8) (by decide) (by decide) (by decide)
              obtain ⟨v9, hF⟩ := fr_rd hF
              rcases fr_if hF with hF | hF
              · obtain ⟨r10, u11, hc12, hF⟩ := q_bnd_some hF
                have hfr := hfr.app (fr_X4_isWithin hc12) (by decide) (by decide) (by decide)
                rcases fr_if hF with hF | hF
                · cases hF; exact hfr
                · cases hF; exact hfr
              · cases hF; exact hfr
            · cases hF; exact hfr
        rcases fr_if hF with hF | hF
        · obtain ⟨v17, hF⟩ := fr_rd hF
          rcases fr_if hF with hF | hF
          · cases hF; exact hfr
          · cases hF; exact hfr
        obtain ⟨v18, hF⟩ := fr_rd hF
        rcases fr_if hF with hF | hF
        · cases hF; exact hfr
        · obtain ⟨v19, hF⟩ := fr_rd hF
          obtain ⟨r20, u21, hc22, hF⟩ := q_bnd_some hF
          have hfr := hfr.app (fr_X4_linksOf hc22) (by decide) (by decide) (by decide)
          rcases fr_if hF with hF | hF
          · cases hF; exact hfr
          · cases hF; exact hfr
      · cases hF; exact hfr
abbrev wi_X1_use : List Nat := [40]
abbrev wa_X1_use : List Nat := [12]
abbrev wj_X1_use : List Nat := []
set_option maxHeartbeats 4000000 in
set_option maxRecDepth 100000 in
theorem fr_X1_use {L : Nat → Nat} {N : Nat} {o1 : Int32} {u0 σ0 : q_St} {r0 : Unit} (hF : fX1_use L N o1 u0 = some (r0, σ0)) : Fr wi_X1_use wa_X1_use wj_X1_use u0 σ0 := by
  have hB33 : ∀ (u : q_St), Fr wi_X1_use wa_X1_use wj_X1_use u0 u → fX1_use_b33 L N u = some (r0, σ0) → Fr wi_X1_use wa_X1_use wj_X1_use u0 σ0 := by
    intro u hfr hF
    unfold fX1_use_b33 at hF
    obtain ⟨u1, hfr, hF⟩ := fr_si hfr hF (by decide)
    cases hF; exact hfr
  unfold fX1_use at hF
  have hfr := Fr.rf wi_X1_use wa_X1_use wj_X1_use u0
  rcases fr_if hF with hF | hF
  · exact hB33 u0 hfr hF
  · rcases fr_if hF with hF | hF
    · exact hB33 u0 hfr hF
    · obtain ⟨v2, hF⟩ := fr_rd hF
      obtain ⟨u3, hfr, hF⟩ := fr_wa hfr hF (by decide)
      cases hF; exact hfr
abbrev wi_X1_useTold : List Nat := [13, 40]
abbrev wa_X1_useTold : List Nat := [12]
abbrev wj_X1_useTold : List Nat := []
set_option maxHeartbeats 4000000 in
set_option maxRecDepth 100000 in
theorem fr_X1_useTold {L : Nat → Nat} {N : Nat} {o1 : Int32} {o2 : Int32} {o3 : Int32} {o4 : Int32} {u0 σ0 : q_St} {r0 : Int32} (hF : fX1_useTold L N o1 o2 o3 o4 u0 = some (r0, σ0)) : Fr wi_X1_useTold wa_X1_useTold wj_X1_useTold u0 σ0 := by
  have hB56 : ∀ (ih6 : Int32 → Int32 → Int32 → Int32 → Int32 → Int32 → q_St → Option (Int32 × q_St)) (hi6 : ∀ (x1 : Int32) (x2 : Int32) (x3 : Int32) (x4 : Int32) (x5 : Int32) (x6 : Int32) (u : q_St), Fr wi_X1_useTold wa_X1_useTold wj_X1_useTold u0 u → ih6 x1 x2 x3 x4 x5 x6 u = some (r0, σ0) → Fr wi_X1_useTold wa_X1_useTold wj_X1_useTold u0 σ0), ∀ (x1 : Int32) (x2 : Int32) (x3 : Int32) (x4 : Int32) (x5 : Int32) (x6 : Int32) (u : q_St), Fr wi_X1_useTold wa_X1_useTold wj_X1_useTold u0 u → fX1_useTold_b56 L N ih6 x1 x2 x3 x4 x5 x6 u = some (r0, σ0) → Fr wi_X1_useTold wa_X1_useTold wj_X1_useTold u0 σ0 := by
    intro ih6 hi6 x1 x2 x3 x4 x5 x6 u hfr hF
    unfold fX1_useTold_b56 at hF
    obtain ⟨v4, hF⟩ := fr_nm hF
    exact hi6 x1 x2 x3 x4 x5 v4 u hfr hF
  have hB50 : ∀ (ih6 : Int32 → Int32 → Int32 → Int32 → Int32 → Int32 → q_St → Option (Int32 × q_St)) (hi6 : ∀ (x1 : Int32) (x2 : Int32) (x3 : Int32) (x4 : Int32) (x5 : Int32) (x6 : Int32) (u : q_St), Fr wi_X1_useTold wa_X1_useTold wj_X1_useTold u0 u → ih6 x1 x2 x3 x4 x5 x6 u = some (r0, σ0) → Fr wi_X1_useTold wa_X1_useTold wj_X1_useTold u0 σ0), ∀ (x1 : Int32) (x2 : Int32) (x3 : Int32) (x4 : Int32) (x5 : Int32) (x6 : Int32) (y0 : Int32) (u : q_St), Fr wi_X1_useTold wa_X1_useTold wj_X1_useTold u0 u → fX1_useTold_b50 L N ih6 x1 x2 x3 x4 x5 x6 y0 u = some (r0, σ0) → Fr wi_X1_useTold wa_X1_useTold wj_X1_useTold u0 σ0 := by
    intro ih6 hi6 x1 x2 x3 x4 x5 x6 y0 u hfr hF
    unfold fX1_useTold_b50 at hF
    obtain ⟨r8, u9, hc10, hF⟩ := q_bnd_some hF
    have hfr := hfr.app (fr_X1_expect hc10) (by decide) (by decide) (by decide)
    obtain ⟨v11, hF⟩ := fr_nm hF
    exact hB56 ih6 hi6 x1 x2 x3 x4 v11 x6 u9 hfr hF
  have hB6 : ∀ (n : Nat) (x1 : Int32) (x2 : Int32) (x3 : Int32) (x4 : Int32) (x5 : Int32) (x6 : Int32) (u : q_St), Fr wi_X1_useTold wa_X1_useTold wj_X1_useTold u0 u → q_lp (fX1_useTold_b6 L N) (fun _ _ _ _ _ _ _ => none) n x1 x2 x3 x4 x5 x6 u = some (r0, σ0) → Fr wi_X1_useTold wa_X1_useTold wj_X1_useTold u0 σ0 := by
    intro n
    induction n with
    | zero => intro x1 x2 x3 x4 x5 x6 u hfr hF; exact absurd (show (none : Option (Int32 × q_St)) = some _ from hF) (fun h => nomatch h)
    | succ n hi6 =>
      intro x1 x2 x3 x4 x5 x6 u hfr hF
      obtain ⟨ih6, hih⟩ : ∃ q, q = q_lp (fX1_useTold_b6 L N) (fun _ _ _ _ _ _ _ => none) n := ⟨_, rfl⟩
      rw [← hih] at hi6
      have hF : fX1_useTold_b6 L N (q_lp (fX1_useTold_b6 L N) (fun _ _ _ _ _ _ _ => none) n) x1 x2 x3 x4 x5 x6 u = some (r0, σ0) := hF
      rw [← hih] at hF
      clear hih
      unfold fX1_useTold_b6 at hF
      rcases fr_if hF with hF | hF
      · cases hF; exact hfr
      · obtain ⟨r1, u2, hc3, hF⟩ := q_bnd_some hF
        have hfr := hfr.app (fr_X6_half hc3) (by decide) (by decide) (by decide)
        rcases fr_if hF with hF | hF
        · exact hB56 ih6 hi6 x1 x2 x3 x4 x5 x6 u2 hfr hF
        · obtain ⟨r5, u6, hc7, hF⟩ := q_bnd_some hF
          have hfr := hfr.app (fr_X1_use hc7) (by decide) (by decide) (by decide)
          rcases fr_if hF with hF | hF
          · exact hB50 ih6 hi6 x1 x2 x3 x4 x5 x6 0 u6 hfr hF
          · exact hB50 ih6 hi6 x1 x2 x3 x4 x5 x6 1 u6 hfr hF
  unfold fX1_useTold at hF
  have hfr := Fr.rf wi_X1_useTold wa_X1_useTold wj_X1_useTold u0
  exact hB6 N o1 o2 o3 o4 0 0 u0 hfr hF
abbrev wi_X1_useIndex : List Nat := [13, 40]
abbrev wa_X1_useIndex : List Nat := [12]
abbrev wj_X1_useIndex : List Nat := []
set_option maxHeartbeats 4000000 in
set_option maxRecDepth 100000 in
theorem fr_X1_useIndex {L : Nat → Nat} {N : Nat} {o1 : Int32} {o2 : Int32} {u0 σ0 : q_St} {r0 : Unit} (hF : fX1_useIndex L N o1 o2 u0 = some (r0, σ0)) : Fr wi_X1_useIndex wa_X1_useIndex wj_X1_useIndex u0 σ0 := by
  have hB27 : ∀ (y0 : Int32) (u : q_St), Fr wi_X1_useIndex wa_X1_useIndex wj_X1_useIndex u0 u → fX1_useIndex_b27 L N y0 u = some (r0, σ0) → Fr wi_X1_useIndex wa_X1_useIndex wj_X1_useIndex u0 σ0 := by
    intro y0 u hfr hF
    unfold fX1_useIndex_b27 at hF
    obtain ⟨r7, u8, hc9, hF⟩ := q_bnd_some hF
    have hfr := hfr.app (fr_X1_expect hc9) (by decide) (by decide) (by decide)
    cases hF; exact hfr
  unfold fX1_useIndex at hF
  have hfr := Fr.rf wi_X1_useIndex wa_X1_useIndex wj_X1_useIndex u0
  rcases fr_if hF with hF | hF
  · cases hF; exact hfr
  · obtain ⟨r1, u2, hc3, hF⟩ := q_bnd_some hF
    have hfr := hfr.app (fr_X1_use hc3) (by decide) (by decide) (by decide)
    obtain ⟨r4, u5, hc6, hF⟩ := q_bnd_some hF
    have hfr := hfr.app (fr_X1_useTold hc6) (by decide) (by decide) (by decide)
    rcases fr_if hF with hF | hF
    · exact hB27 0 u5 hfr hF
    · exact hB27 1 u5 hfr hF
abbrev wi_X1_useFile : List Nat := [13, 40]
abbrev wa_X1_useFile : List Nat := [12]
abbrev wj_X1_useFile : List Nat := []
set_option maxHeartbeats 4000000 in
set_option maxRecDepth 100000 in
theorem fr_X1_useFile {L : Nat → Nat} {N : Nat} {o1 : Int32} {u0 σ0 : q_St} {r0 : Unit} (hF : fX1_useFile L N o1 u0 = some (r0, σ0)) : Fr wi_X1_useFile wa_X1_useFile wj_X1_useFile u0 σ0 := by
  have hB119 : ∀ (ih84 : Int32 → Int32 → Int32 → Int32 → q_St → Option (Unit × q_St)) (hi84 : ∀ (x3 : Int32) (x4 : Int32) (x5 : Int32) (x6 : Int32) (u : q_St), Fr wi_X1_useFile wa_X1_useFile wj_X1_useFile u0 u → ih84 x3 x4 x5 x6 u = some (r0, σ0) → Fr wi_X1_useFile wa_X1_useFile wj_X1_useFile u0 σ0), ∀ (x3 : Int32) (x4 : Int32) (x6 : Int32) (x7 : Int32) (y0 : Int32) (u : q_St), Fr wi_X1_useFile wa_X1_useFile wj_X1_useFile u0 u → fX1_useFile_b119 L N ih84 x3 x4 x6 x7 y0 u = some (r0, σ0) → Fr wi_X1_useFile wa_X1_useFile wj_X1_useFile u0 σ0 := by
    intro ih84 hi84 x3 x4 x6 x7 y0 u hfr hF
    unfold fX1_useFile_b119 at hF
    obtain ⟨r29, u30, hc31, hF⟩ := q_bnd_some hF
    have hfr := hfr.app (fr_X1_useIndex hc31) (by decide) (by decide) (by decide)
    obtain ⟨v32, hF⟩ := fr_nm hF
    exact hi84 x3 x4 y0 v32 u30 hfr hF
  have hB114 : ∀ (ih84 : Int32 → Int32 → Int32 → Int32 → q_St → Option (Unit × q_St)) (hi84 : ∀ (x3 : Int32) (x4 : Int32) (x5 : Int32) (x6 : Int32) (u : q_St), Fr wi_X1_useFile wa_X1_useFile wj_X1_useFile u0 u → ih84 x3 x4 x5 x6 u = some (r0, σ0) → Fr wi_X1_useFile wa_X1_useFile wj_X1_useFile u0 σ0), ∀ (x3 : Int32) (x4 : Int32) (x6 : Int32) (x7 : Int32) (u : q_St), Fr wi_X1_useFile wa_X1_useFile wj_X1_useFile u0 u → fX1_useFile_b114 L N ih84 x3 x4 x6 x7 u = some (r0, σ0) → Fr wi_X1_useFile wa_X1_useFile wj_X1_useFile u0 σ0 := by
    intro ih84 hi84 x3 x4 x6 x7 u hfr hF
    unfold fX1_useFile_b114 at hF
    exact hB119 ih84 hi84 x3 x4 x6 x7 1 u hfr hF
  have hB84 : ∀ (n : Nat) (x3 : Int32) (x4 : Int32) (x5 : Int32) (x6 : Int32) (u : q_St), Fr wi_X1_useFile wa_X1_useFile wj_X1_useFile u0 u → q_lp (fX1_useFile_b84 L N) (fun _ _ _ _ _ => none) n x3 x4 x5 x6 u = some (r0, σ0) → Fr wi_X1_useFile wa_X1_useFile wj_X1_useFile u0 σ0 := by
    intro n
    induction n with
    | zero => intro x3 x4 x5 x6 u hfr hF; exact absurd (show (none : Option (Unit × q_St)) = some _ from hF) (fun h => nomatch h)
    | succ n hi84 =>
      intro x3 x4 x5 x6 u hfr hF
      obtain ⟨ih84, hih⟩ : ∃ q, q = q_lp (fX1_useFile_b84 L N) (fun _ _ _ _ _ => none) n := ⟨_, rfl⟩
      rw [← hih] at hi84
      have hF : fX1_useFile_b84 L N (q_lp (fX1_useFile_b84 L N) (fun _ _ _ _ _ => none) n) x3 x4 x5 x6 u = some (r0, σ0) := hF
      rw [← hih] at hF
      clear hih
      unfold fX1_useFile_b84 at hF
      rcases fr_if hF with hF | hF
      · obtain ⟨r23, u24, hc25, hF⟩ := q_bnd_some hF
        have hfr := hfr.app (fr_X1_expect hc25) (by decide) (by decide) (by decide)
        cases hF; exact hfr
      · obtain ⟨r26, u27, hc28, hF⟩ := q_bnd_some hF
        have hfr := hfr.app (fr_X6_half hc28) (by decide) (by decide) (by decide)
        rcases fr_if hF with hF | hF
        · rcases fr_if hF with hF | hF
          · exact hB119 ih84 hi84 x3 x4 x6 r26 0 u27 hfr hF
          · exact hB114 ih84 hi84 x3 x4 x6 r26 u27 hfr hF
        · exact hB114 ih84 hi84 x3 x4 x6 r26 u27 hfr hF
  unfold fX1_useFile at hF
  have hfr := Fr.rf wi_X1_useFile wa_X1_useFile wj_X1_useFile u0
  obtain ⟨r1, u2, hc3, hF⟩ := q_bnd_some hF
  have hfr := hfr.app (fr_X4_sectorOf hc3) (by decide) (by decide) (by decide)
  obtain ⟨r4, u5, hc6, hF⟩ := q_bnd_some hF
  have hfr := hfr.app (fr_X4_lengthOf hc6) (by decide) (by decide) (by decide)
  obtain ⟨v7, hF⟩ := fr_nm hF
  obtain ⟨r8, u9, hc10, hF⟩ := q_bnd_some hF
  have hfr := hfr.app (fr_X1_useTold hc10) (by decide) (by decide) (by decide)
  obtain ⟨r11, u12, hc13, hF⟩ := q_bnd_some hF
  have hfr := hfr.app (fr_X6_half hc13) (by decide) (by decide) (by decide)
  obtain ⟨r14, u15, hc16, hF⟩ := q_bnd_some hF
  have hfr := hfr.app (fr_X1_useIndex hc16) (by decide) (by decide) (by decide)
  obtain ⟨r17, u18, hc19, hF⟩ := q_bnd_some hF
  have hfr := hfr.app (fr_X6_half hc19) (by decide) (by decide) (by decide)
  rcases fr_if hF with hF | hF
  · cases hF; exact hfr
  · obtain ⟨r20, u21, hc22, hF⟩ := q_bnd_some hF
    have hfr := hfr.app (fr_X1_use hc22) (by decide) (by decide) (by decide)
    exact hB84 N v7 r17 0 0 u21 hfr hF
abbrev wi_X1_useSlot : List Nat := [40]
abbrev wa_X1_useSlot : List Nat := [13, 14]
abbrev wj_X1_useSlot : List Nat := []
set_option maxHeartbeats 4000000 in
set_option maxRecDepth 100000 in
theorem fr_X1_useSlot {L : Nat → Nat} {N : Nat} {o1 : Int32} {o2 : Int32} {u0 σ0 : q_St} {r0 : Unit} (hF : fX1_useSlot L N o1 o2 u0 = some (r0, σ0)) : Fr wi_X1_useSlot wa_X1_useSlot wj_X1_useSlot u0 σ0 := by
  have hB22 : ∀ (u : q_St), Fr wi_X1_useSlot wa_X1_useSlot wj_X1_useSlot u0 u → fX1_useSlot_b22 L N u = some (r0, σ0) → Fr wi_X1_useSlot wa_X1_useSlot wj_X1_useSlot u0 σ0 := by
    intro u hfr hF
    unfold fX1_useSlot_b22 at hF
    obtain ⟨u1, hfr, hF⟩ := fr_si hfr hF (by decide)
    cases hF; exact hfr
  unfold fX1_useSlot at hF
  have hfr := Fr.rf wi_X1_useSlot wa_X1_useSlot wj_X1_useSlot u0
  rcases fr_if hF with hF | hF
  · exact hB22 u0 hfr hF
  · rcases fr_if hF with hF | hF
    · exact hB22 u0 hfr hF
    · rcases fr_if hF with hF | hF
      · obtain ⟨v2, hF⟩ := fr_rd hF
        obtain ⟨u3, hfr, hF⟩ := fr_wa hfr hF (by decide)
        obtain ⟨u4, hfr, hF⟩ := fr_wa hfr hF (by decide)
        cases hF; exact hfr
      · exact hB22 u0 hfr hF
abbrev wi_X1_useDirectory : List Nat := [13, 40]
abbrev wa_X1_useDirectory : List Nat := [12, 13, 14]
abbrev wj_X1_useDirectory : List Nat := []
set_option maxHeartbeats 4000000 in
set_option maxRecDepth 100000 in
theorem fr_X1_useDirectory {L : Nat → Nat} {N : Nat} {o1 : Int32} {u0 σ0 : q_St} {r0 : Unit} (hF : fX1_useDirectory L N o1 u0 = some (r0, σ0)) : Fr wi_X1_useDirectory wa_X1_useDirectory wj_X1_useDirectory u0 σ0 := by
  have hB87 : ∀ (ih2 : Int32 → Int32 → q_St → Option (Unit × q_St)) (hi2 : ∀ (x1 : Int32) (x2 : Int32) (u : q_St), Fr wi_X1_useDirectory wa_X1_useDirectory wj_X1_useDirectory u0 u → ih2 x1 x2 u = some (r0, σ0) → Fr wi_X1_useDirectory wa_X1_useDirectory wj_X1_useDirectory u0 σ0), ∀ (x1 : Int32) (x2 : Int32) (u : q_St), Fr wi_X1_useDirectory wa_X1_useDirectory wj_X1_useDirectory u0 u → fX1_useDirectory_b87 L N ih2 x1 x2 u = some (r0, σ0) → Fr wi_X1_useDirectory wa_X1_useDirectory wj_X1_useDirectory u0 σ0 := by
    intro ih2 hi2 x1 x2 u hfr hF
    unfold fX1_useDirectory_b87 at hF
    obtain ⟨v10, hF⟩ := fr_nm hF
    exact hi2 x1 v10 u hfr hF
  have hB81 : ∀ (ih2 : Int32 → Int32 → q_St → Option (Unit × q_St)) (hi2 : ∀ (x1 : Int32) (x2 : Int32) (u : q_St), Fr wi_X1_useDirectory wa_X1_useDirectory wj_X1_useDirectory u0 u → ih2 x1 x2 u = some (r0, σ0) → Fr wi_X1_useDirectory wa_X1_useDirectory wj_X1_useDirectory u0 σ0), ∀ (ih42 : Int32 → Int32 → Int32 → Int32 → q_St → Option (Unit × q_St)) (hi42 : ∀ (x1 : Int32) (x2 : Int32) (x3 : Int32) (x4 : Int32) (u : q_St), Fr wi_X1_useDirectory wa_X1_useDirectory wj_X1_useDirectory u0 u → ih42 x1 x2 x3 x4 u = some (r0, σ0) → Fr wi_X1_useDirectory wa_X1_useDirectory wj_X1_useDirectory u0 σ0), ∀ (x1 : Int32) (x2 : Int32) (x3 : Int32) (x4 : Int32) (u : q_St), Fr wi_X1_useDirectory wa_X1_useDirectory wj_X1_useDirectory u0 u → fX1_useDirectory_b81 L N ih2 ih42 x1 x2 x3 x4 u = some (r0, σ0) → Fr wi_X1_useDirectory wa_X1_useDirectory wj_X1_useDirectory u0 σ0 := by
    intro ih2 hi2 ih42 hi42 x1 x2 x3 x4 u hfr hF
    unfold fX1_useDirectory_b81 at hF
    obtain ⟨v14, hF⟩ := fr_nm hF
    exact hi42 x1 x2 x3 v14 u hfr hF
  have hB42 : ∀ (ih2 : Int32 → Int32 → q_St → Option (Unit × q_St)) (hi2 : ∀ (x1 : Int32) (x2 : Int32) (u : q_St), Fr wi_X1_useDirectory wa_X1_useDirectory wj_X1_useDirectory u0 u → ih2 x1 x2 u = some (r0, σ0) → Fr wi_X1_useDirectory wa_X1_useDirectory wj_X1_useDirectory u0 σ0), ∀ (n : Nat) (x1 : Int32) (x2 : Int32) (x3 : Int32) (x4 : Int32) (u : q_St), Fr wi_X1_useDirectory wa_X1_useDirectory wj_X1_useDirectory u0 u → q_lp (fX1_useDirectory_b42 L N ih2) (fun _ _ _ _ _ => none) n x1 x2 x3 x4 u = some (r0, σ0) → Fr wi_X1_useDirectory wa_X1_useDirectory wj_X1_useDirectory u0 σ0 := by
    intro ih2 hi2 n
    induction n with
    | zero => intro x1 x2 x3 x4 u hfr hF; exact absurd (show (none : Option (Unit × q_St)) = some _ from hF) (fun h => nomatch h)
    | succ n hi42 =>
      intro x1 x2 x3 x4 u hfr hF
      obtain ⟨ih42, hih⟩ : ∃ q, q = q_lp (fX1_useDirectory_b42 L N ih2) (fun _ _ _ _ _ => none) n := ⟨_, rfl⟩
      rw [← hih] at hi42
      have hF : fX1_useDirectory_b42 L N ih2 (q_lp (fX1_useDirectory_b42 L N ih2) (fun _ _ _ _ _ => none) n) x1 x2 x3 x4 u = some (r0, σ0) := hF
      rw [← hih] at hF
      clear hih
      unfold fX1_useDirectory_b42 at hF
      rcases fr_if hF with hF | hF
      · exact hB87 ih2 hi2 x1 x2 u hfr hF
      · obtain ⟨r11, u12, hc13, hF⟩ := q_bnd_some hF
        have hfr := hfr.app (fr_X6_word hc13) (by decide) (by decide) (by decide)
        rcases fr_if hF with hF | hF
        · exact hB81 ih2 hi2 ih42 hi42 x1 x2 x3 x4 u12 hfr hF
        · obtain ⟨r15, u16, hc17, hF⟩ := q_bnd_some hF
          have hfr := hfr.app (fr_X6_half hc17) (by decide) (by decide) (by decide)
          obtain ⟨r18, u19, hc20, hF⟩ := q_bnd_some hF
          have hfr := hfr.app (fr_X1_useSlot hc20) (by decide) (by decide) (by decide)
          exact hB81 ih2 hi2 ih42 hi42 x1 x2 x3 x4 u19 hfr hF
  have hB2 : ∀ (n : Nat) (x1 : Int32) (x2 : Int32) (u : q_St), Fr wi_X1_useDirectory wa_X1_useDirectory wj_X1_useDirectory u0 u → q_lp (fX1_useDirectory_b2 L N) (fun _ _ _ => none) n x1 x2 u = some (r0, σ0) → Fr wi_X1_useDirectory wa_X1_useDirectory wj_X1_useDirectory u0 σ0 := by
    intro n
    induction n with
    | zero => intro x1 x2 u hfr hF; exact absurd (show (none : Option (Unit × q_St)) = some _ from hF) (fun h => nomatch h)
    | succ n hi2 =>
      intro x1 x2 u hfr hF
      obtain ⟨ih2, hih⟩ : ∃ q, q = q_lp (fX1_useDirectory_b2 L N) (fun _ _ _ => none) n := ⟨_, rfl⟩
      rw [← hih] at hi2
      have hF : fX1_useDirectory_b2 L N (q_lp (fX1_useDirectory_b2 L N) (fun _ _ _ => none) n) x1 x2 u = some (r0, σ0) := hF
      rw [← hih] at hF
      clear hih
      unfold fX1_useDirectory_b2 at hF
      rcases fr_if hF with hF | hF
      · cases hF; exact hfr
      · obtain ⟨r1, u2, hc3, hF⟩ := q_bnd_some hF
        have hfr := hfr.app (fr_X4_sectorOf hc3) (by decide) (by decide) (by decide)
        obtain ⟨r4, u5, hc6, hF⟩ := q_bnd_some hF
        have hfr := hfr.app (fr_X6_half hc6) (by decide) (by decide) (by decide)
        rcases fr_if hF with hF | hF
        · exact hB87 ih2 hi2 x1 x2 u5 hfr hF
        · obtain ⟨r7, u8, hc9, hF⟩ := q_bnd_some hF
          have hfr := hfr.app (fr_X1_use hc9) (by decide) (by decide) (by decide)
          exact hB42 ih2 hi2 N x1 x2 r4 0 u8 hfr hF
  unfold fX1_useDirectory at hF
  have hfr := Fr.rf wi_X1_useDirectory wa_X1_useDirectory wj_X1_useDirectory u0
  exact hB2 N o1 0 u0 hfr hF
abbrev wi_X1_useLaid : List Nat := [13, 40]
abbrev wa_X1_useLaid : List Nat := [12]
abbrev wj_X1_useLaid : List Nat := []
set_option maxHeartbeats 4000000 in
set_option maxRecDepth 100000 in
theorem fr_X1_useLaid {L : Nat → Nat} {N : Nat} {o1 : Int32} {u0 σ0 : q_St} {r0 : Unit} (hF : fX1_useLaid L N o1 u0 = some (r0, σ0)) : Fr wi_X1_useLaid wa_X1_useLaid wj_X1_useLaid u0 σ0 := by
  have hB19 : ∀ (n : Nat) (x2 : Int32) (x3 : Int32) (u : q_St), Fr wi_X1_useLaid wa_X1_useLaid wj_X1_useLaid u0 u → q_lp (fX1_useLaid_b19 L N) (fun _ _ _ => none) n x2 x3 u = some (r0, σ0) → Fr wi_X1_useLaid wa_X1_useLaid wj_X1_useLaid u0 σ0 := by
    intro n
    induction n with
    | zero => intro x2 x3 u hfr hF; exact absurd (show (none : Option (Unit × q_St)) = some _ from hF) (fun h => nomatch h)
    | succ n hi19 =>
      intro x2 x3 u hfr hF
      obtain ⟨ih19, hih⟩ : ∃ q, q = q_lp (fX1_useLaid_b19 L N) (fun _ _ _ => none) n := ⟨_, rfl⟩
      rw [← hih] at hi19
      have hF : fX1_useLaid_b19 L N (q_lp (fX1_useLaid_b19 L N) (fun _ _ _ => none) n) x2 x3 u = some (r0, σ0) := hF
      rw [← hih] at hF
      clear hih
      unfold fX1_useLaid_b19 at hF
      rcases fr_if hF with hF | hF
      · cases hF; exact hfr
      · obtain ⟨r5, u6, hc7, hF⟩ := q_bnd_some hF
        have hfr := hfr.app (fr_X1_use hc7) (by decide) (by decide) (by decide)
        obtain ⟨v8, hF⟩ := fr_nm hF
        exact hi19 x2 v8 u6 hfr hF
  unfold fX1_useLaid at hF
  have hfr := Fr.rf wi_X1_useLaid wa_X1_useLaid wj_X1_useLaid u0
  obtain ⟨r1, u2, hc3, hF⟩ := q_bnd_some hF
  have hfr := hfr.app (fr_X4_holderOf hc3) (by decide) (by decide) (by decide)
  obtain ⟨v4, hF⟩ := fr_nm hF
  exact hB19 N v4 0 u2 hfr hF
abbrev wi_X1_wrongThings : List Nat := [13, 40]
abbrev wa_X1_wrongThings : List Nat := [12, 13, 14]
abbrev wj_X1_wrongThings : List Nat := []
set_option maxHeartbeats 4000000 in
set_option maxRecDepth 100000 in
theorem fr_X1_wrongThings {L : Nat → Nat} {N : Nat}  {u0 σ0 : q_St} {r0 : Int32} (hF : fX1_wrongThings L N u0 = some (r0, σ0)) : Fr wi_X1_wrongThings wa_X1_wrongThings wj_X1_wrongThings u0 σ0 := by
  have hB197 : ∀ (ih127 : Int32 → q_St → Option (Int32 × q_St)) (hi127 : ∀ (x1 : Int32) (u : q_St), Fr wi_X1_wrongThings wa_X1_wrongThings wj_X1_wrongThings u0 u → ih127 x1 u = some (r0, σ0) → Fr wi_X1_wrongThings wa_X1_wrongThings wj_X1_wrongThings u0 σ0), ∀ (x1 : Int32) (y0 : Int32) (u : q_St), Fr wi_X1_wrongThings wa_X1_wrongThings wj_X1_wrongThings u0 u → fX1_wrongThings_b197 L N ih127 x1 y0 u = some (r0, σ0) → Fr wi_X1_wrongThings wa_X1_wrongThings wj_X1_wrongThings u0 σ0 := by
    intro ih127 hi127 x1 y0 u hfr hF
    unfold fX1_wrongThings_b197 at hF
    obtain ⟨r18, u19, hc20, hF⟩ := q_bnd_some hF
    have hfr := hfr.app (fr_X1_expect hc20) (by decide) (by decide) (by decide)
    obtain ⟨v21, hF⟩ := fr_nm hF
    exact hi127 v21 u19 hfr hF
  have hB189 : ∀ (ih127 : Int32 → q_St → Option (Int32 × q_St)) (hi127 : ∀ (x1 : Int32) (u : q_St), Fr wi_X1_wrongThings wa_X1_wrongThings wj_X1_wrongThings u0 u → ih127 x1 u = some (r0, σ0) → Fr wi_X1_wrongThings wa_X1_wrongThings wj_X1_wrongThings u0 σ0), ∀ (x1 : Int32) (y0 : Int32) (y1 : Int32) (u : q_St), Fr wi_X1_wrongThings wa_X1_wrongThings wj_X1_wrongThings u0 u → fX1_wrongThings_b189 L N ih127 x1 y0 y1 u = some (r0, σ0) → Fr wi_X1_wrongThings wa_X1_wrongThings wj_X1_wrongThings u0 σ0 := by
    intro ih127 hi127 x1 y0 y1 u hfr hF
    unfold fX1_wrongThings_b189 at hF
    rcases fr_if hF with hF | hF
    · exact hB197 ih127 hi127 x1 1 u hfr hF
    · exact hB197 ih127 hi127 x1 0 u hfr hF
  have hB184 : ∀ (ih127 : Int32 → q_St → Option (Int32 × q_St)) (hi127 : ∀ (x1 : Int32) (u : q_St), Fr wi_X1_wrongThings wa_X1_wrongThings wj_X1_wrongThings u0 u → ih127 x1 u = some (r0, σ0) → Fr wi_X1_wrongThings wa_X1_wrongThings wj_X1_wrongThings u0 σ0), ∀ (x1 : Int32) (y0 : Int32) (u : q_St), Fr wi_X1_wrongThings wa_X1_wrongThings wj_X1_wrongThings u0 u → fX1_wrongThings_b184 L N ih127 x1 y0 u = some (r0, σ0) → Fr wi_X1_wrongThings wa_X1_wrongThings wj_X1_wrongThings u0 σ0 := by
    intro ih127 hi127 x1 y0 u hfr hF
    unfold fX1_wrongThings_b184 at hF
    exact hB189 ih127 hi127 x1 1 y0 u hfr hF
  have hB152 : ∀ (ih127 : Int32 → q_St → Option (Int32 × q_St)) (hi127 : ∀ (x1 : Int32) (u : q_St), Fr wi_X1_wrongThings wa_X1_wrongThings wj_X1_wrongThings u0 u → ih127 x1 u = some (r0, σ0) → Fr wi_X1_wrongThings wa_X1_wrongThings wj_X1_wrongThings u0 σ0), ∀ (x1 : Int32) (y0 : Int32) (u : q_St), Fr wi_X1_wrongThings wa_X1_wrongThings wj_X1_wrongThings u0 u → fX1_wrongThings_b152 L N ih127 x1 y0 u = some (r0, σ0) → Fr wi_X1_wrongThings wa_X1_wrongThings wj_X1_wrongThings u0 σ0 := by
    intro ih127 hi127 x1 y0 u hfr hF
    unfold fX1_wrongThings_b152 at hF
    obtain ⟨r12, u13, hc14, hF⟩ := q_bnd_some hF
    have hfr := hfr.app (fr_X1_expect hc14) (by decide) (by decide) (by decide)
    obtain ⟨r15, u16, hc17, hF⟩ := q_bnd_some hF
    have hfr := hfr.app (fr_X5_isSet hc17) (by decide) (by decide) (by decide)
    rcases fr_if hF with hF | hF
    · exact hB184 ih127 hi127 x1 r15 u16 hfr hF
    · obtain ⟨v22, hF⟩ := fr_rd hF
      rcases fr_if hF with hF | hF
      · exact hB189 ih127 hi127 x1 0 r15 u16 hfr hF
      · exact hB184 ih127 hi127 x1 r15 u16 hfr hF
  have hB127 : ∀ (n : Nat) (x1 : Int32) (u : q_St), Fr wi_X1_wrongThings wa_X1_wrongThings wj_X1_wrongThings u0 u → q_lp (fX1_wrongThings_b127 L N) (fun _ _ => none) n x1 u = some (r0, σ0) → Fr wi_X1_wrongThings wa_X1_wrongThings wj_X1_wrongThings u0 σ0 := by
    intro n
    induction n with
    | zero => intro x1 u hfr hF; exact absurd (show (none : Option (Int32 × q_St)) = some _ from hF) (fun h => nomatch h)
    | succ n hi127 =>
      intro x1 u hfr hF
      obtain ⟨ih127, hih⟩ : ∃ q, q = q_lp (fX1_wrongThings_b127 L N) (fun _ _ => none) n := ⟨_, rfl⟩
      rw [← hih] at hi127
      have hF : fX1_wrongThings_b127 L N (q_lp (fX1_wrongThings_b127 L N) (fun _ _ => none) n) x1 u = some (r0, σ0) := hF
      rw [← hih] at hF
      clear hih
      unfold fX1_wrongThings_b127 at hF
      rcases fr_if hF with hF | hF
      · cases hF; exact hfr
      · obtain ⟨v11, hF⟩ := fr_rd hF
        rcases fr_if hF with hF | hF
        · exact hB152 ih127 hi127 x1 0 u hfr hF
        · exact hB152 ih127 hi127 x1 1 u hfr hF
  have hB104 : ∀ (n : Nat) (x1 : Int32) (u : q_St), Fr wi_X1_wrongThings wa_X1_wrongThings wj_X1_wrongThings u0 u → q_lp (fX1_wrongThings_b104 L N) (fun _ _ => none) n x1 u = some (r0, σ0) → Fr wi_X1_wrongThings wa_X1_wrongThings wj_X1_wrongThings u0 σ0 := by
    intro n
    induction n with
    | zero => intro x1 u hfr hF; exact absurd (show (none : Option (Int32 × q_St)) = some _ from hF) (fun h => nomatch h)
    | succ n hi104 =>
      intro x1 u hfr hF
      obtain ⟨ih104, hih⟩ : ∃ q, q = q_lp (fX1_wrongThings_b104 L N) (fun _ _ => none) n := ⟨_, rfl⟩
      rw [← hih] at hi104
      have hF : fX1_wrongThings_b104 L N (q_lp (fX1_wrongThings_b104 L N) (fun _ _ => none) n) x1 u = some (r0, σ0) := hF
      rw [← hih] at hF
      clear hih
      unfold fX1_wrongThings_b104 at hF
      rcases fr_if hF with hF | hF
      · exact hB127 N 0 u hfr hF
      · obtain ⟨r23, u24, hc25, hF⟩ := q_bnd_some hF
        have hfr := hfr.app (fr_X1_isHeldRight hc25) (by decide) (by decide) (by decide)
        obtain ⟨r26, u27, hc28, hF⟩ := q_bnd_some hF
        have hfr := hfr.app (fr_X1_expect hc28) (by decide) (by decide) (by decide)
        obtain ⟨v29, hF⟩ := fr_nm hF
        exact hi104 v29 u27 hfr hF
  have hB96 : ∀ (ih31 : Int32 → q_St → Option (Int32 × q_St)) (hi31 : ∀ (x1 : Int32) (u : q_St), Fr wi_X1_wrongThings wa_X1_wrongThings wj_X1_wrongThings u0 u → ih31 x1 u = some (r0, σ0) → Fr wi_X1_wrongThings wa_X1_wrongThings wj_X1_wrongThings u0 σ0), ∀ (x1 : Int32) (u : q_St), Fr wi_X1_wrongThings wa_X1_wrongThings wj_X1_wrongThings u0 u → fX1_wrongThings_b96 L N ih31 x1 u = some (r0, σ0) → Fr wi_X1_wrongThings wa_X1_wrongThings wj_X1_wrongThings u0 σ0 := by
    intro ih31 hi31 x1 u hfr hF
    unfold fX1_wrongThings_b96 at hF
    obtain ⟨v36, hF⟩ := fr_nm hF
    exact hi31 v36 u hfr hF
  have hB31 : ∀ (n : Nat) (x1 : Int32) (u : q_St), Fr wi_X1_wrongThings wa_X1_wrongThings wj_X1_wrongThings u0 u → q_lp (fX1_wrongThings_b31 L N) (fun _ _ => none) n x1 u = some (r0, σ0) → Fr wi_X1_wrongThings wa_X1_wrongThings wj_X1_wrongThings u0 σ0 := by
    intro n
    induction n with
    | zero => intro x1 u hfr hF; exact absurd (show (none : Option (Int32 × q_St)) = some _ from hF) (fun h => nomatch h)
    | succ n hi31 =>
      intro x1 u hfr hF
      obtain ⟨ih31, hih⟩ : ∃ q, q = q_lp (fX1_wrongThings_b31 L N) (fun _ _ => none) n := ⟨_, rfl⟩
      rw [← hih] at hi31
      have hF : fX1_wrongThings_b31 L N (q_lp (fX1_wrongThings_b31 L N) (fun _ _ => none) n) x1 u = some (r0, σ0) := hF
      rw [← hih] at hF
      clear hih
      unfold fX1_wrongThings_b31 at hF
      rcases fr_if hF with hF | hF
      · exact hB104 N 0 u hfr hF
      · obtain ⟨r30, u31, hc32, hF⟩ := q_bnd_some hF
        have hfr := hfr.app (fr_X4_kindOf hc32) (by decide) (by decide) (by decide)
        rcases fr_if hF with hF | hF
        · obtain ⟨r33, u34, hc35, hF⟩ := q_bnd_some hF
          have hfr := hfr.app (fr_X1_useFile hc35) (by decide) (by decide) (by decide)
          exact hB96 ih31 hi31 x1 u34 hfr hF
        rcases fr_if hF with hF | hF
        · obtain ⟨r37, u38, hc39, hF⟩ := q_bnd_some hF
          have hfr := hfr.app (fr_X1_useDirectory hc39) (by decide) (by decide) (by decide)
          exact hB96 ih31 hi31 x1 u38 hfr hF
        rcases fr_if hF with hF | hF
        · obtain ⟨r40, u41, hc42, hF⟩ := q_bnd_some hF
          have hfr := hfr.app (fr_X1_useLaid hc42) (by decide) (by decide) (by decide)
          exact hB96 ih31 hi31 x1 u41 hfr hF
        exact hB96 ih31 hi31 x1 u31 hfr hF
  unfold fX1_wrongThings at hF
  have hfr := Fr.rf wi_X1_wrongThings wa_X1_wrongThings wj_X1_wrongThings u0
  obtain ⟨u1, hfr, hF⟩ := fr_si hfr hF (by decide)
  obtain ⟨r2, u3, hc4, hF⟩ := q_bnd_some hF
  have hfr := hfr.app (fr_J7_fill_29 hc4) (by decide) (by decide) (by decide)
  obtain ⟨r5, u6, hc7, hF⟩ := q_bnd_some hF
  have hfr := hfr.app (fr_J7_fill_30 hc7) (by decide) (by decide) (by decide)
  obtain ⟨r8, u9, hc10, hF⟩ := q_bnd_some hF
  have hfr := hfr.app (fr_J7_fill_31 hc10) (by decide) (by decide) (by decide)
  exact hB31 N 0 u9 hfr hF
abbrev wi_X10_check : List Nat := [13, 40]
abbrev wa_X10_check : List Nat := [12, 13, 14]
abbrev wj_X10_check : List Nat := []
set_option maxHeartbeats 4000000 in
set_option maxRecDepth 100000 in
theorem fr_X10_check {L : Nat → Nat} {N : Nat}  {u0 σ0 : q_St} {r0 : Int32} (hF : fX10_check L N u0 = some (r0, σ0)) : Fr wi_X10_check wa_X10_check wj_X10_check u0 σ0 := by
  unfold fX10_check at hF
  have hfr := Fr.rf wi_X10_check wa_X10_check wj_X10_check u0
  rcases fr_if hF with hF | hF
  · cases hF; exact hfr
  · obtain ⟨r1, u2, hc3, hF⟩ := q_bnd_some hF
    have hfr := hfr.app (fr_X1_wrongThings hc3) (by decide) (by decide) (by decide)
    cases hF; exact hfr
abbrev wi_X10_scrub : List Nat := [13]
abbrev wa_X10_scrub : List Nat := []
abbrev wj_X10_scrub : List Nat := []
set_option maxHeartbeats 4000000 in
set_option maxRecDepth 100000 in
theorem fr_X10_scrub {L : Nat → Nat} {N : Nat}  {u0 σ0 : q_St} {r0 : Int32} (hF : fX10_scrub L N u0 = some (r0, σ0)) : Fr wi_X10_scrub wa_X10_scrub wj_X10_scrub u0 σ0 := by
  have hB51 : ∀ (ih17 : Int32 → Int32 → q_St → Option (Int32 × q_St)) (hi17 : ∀ (x1 : Int32) (x2 : Int32) (u : q_St), Fr wi_X10_scrub wa_X10_scrub wj_X10_scrub u0 u → ih17 x1 x2 u = some (r0, σ0) → Fr wi_X10_scrub wa_X10_scrub wj_X10_scrub u0 σ0), ∀ (x1 : Int32) (x2 : Int32) (u : q_St), Fr wi_X10_scrub wa_X10_scrub wj_X10_scrub u0 u → fX10_scrub_b51 L N ih17 x1 x2 u = some (r0, σ0) → Fr wi_X10_scrub wa_X10_scrub wj_X10_scrub u0 σ0 := by
    intro ih17 hi17 x1 x2 u hfr hF
    unfold fX10_scrub_b51 at hF
    obtain ⟨v4, hF⟩ := fr_nm hF
    exact hi17 x1 v4 u hfr hF
  have hB17 : ∀ (n : Nat) (x1 : Int32) (x2 : Int32) (u : q_St), Fr wi_X10_scrub wa_X10_scrub wj_X10_scrub u0 u → q_lp (fX10_scrub_b17 L N) (fun _ _ _ => none) n x1 x2 u = some (r0, σ0) → Fr wi_X10_scrub wa_X10_scrub wj_X10_scrub u0 σ0 := by
    intro n
    induction n with
    | zero => intro x1 x2 u hfr hF; exact absurd (show (none : Option (Int32 × q_St)) = some _ from hF) (fun h => nomatch h)
    | succ n hi17 =>
      intro x1 x2 u hfr hF
      obtain ⟨ih17, hih⟩ : ∃ q, q = q_lp (fX10_scrub_b17 L N) (fun _ _ _ => none) n := ⟨_, rfl⟩
      rw [← hih] at hi17
      have hF : fX10_scrub_b17 L N (q_lp (fX10_scrub_b17 L N) (fun _ _ _ => none) n) x1 x2 u = some (r0, σ0) := hF
      rw [← hih] at hF
      clear hih
      unfold fX10_scrub_b17 at hF
      rcases fr_if hF with hF | hF
      · cases hF; exact hfr
      · obtain ⟨r1, u2, hc3, hF⟩ := q_bnd_some hF
        have hfr := hfr.app (fr_X5_isFree hc3) (by decide) (by decide) (by decide)
        rcases fr_if hF with hF | hF
        · obtain ⟨r5, u6, hc7, hF⟩ := q_bnd_some hF
          have hfr := hfr.app (fr_X8_spot hc7) (by decide) (by decide) (by decide)
          obtain ⟨v8, hF⟩ := fr_nm hF
          exact hB51 ih17 hi17 v8 x2 u6 hfr hF
        · exact hB51 ih17 hi17 x1 x2 u2 hfr hF
  unfold fX10_scrub at hF
  have hfr := Fr.rf wi_X10_scrub wa_X10_scrub wj_X10_scrub u0
  rcases fr_if hF with hF | hF
  · cases hF; exact hfr
  · exact hB17 N 0 0 u0 hfr hF
abbrev wi_X10_sync : List Nat := [7, 8, 9, 10, 11, 12, 13, 14, 15, 16, 17, 18, 19, 21, 22, 23, 24]
abbrev wa_X10_sync : List Nat := [0, 1, 2, 3, 4, 5, 6]
abbrev wj_X10_sync : List Nat := [0, 3]
set_option maxHeartbeats 4000000 in
set_option maxRecDepth 100000 in
theorem fr_X10_sync {L : Nat → Nat} {N : Nat}  {u0 σ0 : q_St} {r0 : Int32} (hF : fX10_sync L N u0 = some (r0, σ0)) : Fr wi_X10_sync wa_X10_sync wj_X10_sync u0 σ0 := by
  unfold fX10_sync at hF
  have hfr := Fr.rf wi_X10_sync wa_X10_sync wj_X10_sync u0
  obtain ⟨v1, hF⟩ := fr_nm hF
  obtain ⟨r2, u3, hc4, hF⟩ := q_bnd_some hF
  have hfr := hfr.app (fr_X6_commitOver hc4) (by decide) (by decide) (by decide)
  rcases fr_if hF with hF | hF
  · cases hF; exact hfr
  · cases hF; exact hfr
abbrev wi_X10_clean : List Nat := [7, 8, 10, 11, 12, 13, 15, 16, 17, 18, 19, 21]
abbrev wa_X10_clean : List Nat := [0, 1, 4]
abbrev wj_X10_clean : List Nat := [0]
set_option maxHeartbeats 4000000 in
set_option maxRecDepth 100000 in
theorem fr_X10_clean {L : Nat → Nat} {N : Nat}  {u0 σ0 : q_St} {r0 : Int32} (hF : fX10_clean L N u0 = some (r0, σ0)) : Fr wi_X10_clean wa_X10_clean wj_X10_clean u0 σ0 := by
  unfold fX10_clean at hF
  have hfr := Fr.rf wi_X10_clean wa_X10_clean wj_X10_clean u0
  rcases fr_if hF with hF | hF
  · cases hF; exact hfr
  · obtain ⟨r1, u2, hc3, hF⟩ := q_bnd_some hF
    have hfr := hfr.app (fr_X8_step hc3) (by decide) (by decide) (by decide)
    cases hF; exact hfr
abbrev wi_X10_power : List Nat := [8]
abbrev wa_X10_power : List Nat := []
abbrev wj_X10_power : List Nat := []
set_option maxHeartbeats 4000000 in
set_option maxRecDepth 100000 in
theorem fr_X10_power {L : Nat → Nat} {N : Nat} {o1 : Int32} {u0 σ0 : q_St} {r0 : Int32} (hF : fX10_power L N o1 u0 = some (r0, σ0)) : Fr wi_X10_power wa_X10_power wj_X10_power u0 σ0 := by
  unfold fX10_power at hF
  have hfr := Fr.rf wi_X10_power wa_X10_power wj_X10_power u0
  obtain ⟨u1, hfr, hF⟩ := fr_si hfr hF (by decide)
  have hF := (q_rz_some hF).2
  cases hF; exact hfr
abbrev wi_X2_writes : List Nat := []
abbrev wa_X2_writes : List Nat := []
abbrev wj_X2_writes : List Nat := []
set_option maxHeartbeats 4000000 in
set_option maxRecDepth 100000 in
theorem fr_X2_writes {L : Nat → Nat} {N : Nat}  {u0 σ0 : q_St} {r0 : Int32} (hF : fX2_writes L N u0 = some (r0, σ0)) : Fr wi_X2_writes wa_X2_writes wj_X2_writes u0 σ0 := by
  unfold fX2_writes at hF
  have hfr := Fr.rf wi_X2_writes wa_X2_writes wj_X2_writes u0
  cases hF; exact hfr
abbrev wi_X7_byteOf_9 : List Nat := []
abbrev wa_X7_byteOf_9 : List Nat := []
abbrev wj_X7_byteOf_9 : List Nat := []
set_option maxHeartbeats 4000000 in
set_option maxRecDepth 100000 in
theorem fr_X7_byteOf_9 {L : Nat → Nat} {N : Nat} {o1 : Int32} {u0 σ0 : q_St} {r0 : Int32} (hF : fX7_byteOf_9 L N o1 u0 = some (r0, σ0)) : Fr wi_X7_byteOf_9 wa_X7_byteOf_9 wj_X7_byteOf_9 u0 σ0 := by
  unfold fX7_byteOf_9 at hF
  have hfr := Fr.rf wi_X7_byteOf_9 wa_X7_byteOf_9 wj_X7_byteOf_9 u0
  rcases fr_if hF with hF | hF
  · cases hF; exact hfr
  · rcases fr_if hF with hF | hF
    · cases hF; exact hfr
    · rcases fr_if hF with hF | hF
      · cases hF; exact hfr
      · obtain ⟨v1, hF⟩ := fr_rd hF
        cases hF; exact hfr
abbrev wi_X8_fill_9 : List Nat := [7, 8, 10, 11]
abbrev wa_X8_fill_9 : List Nat := [0]
abbrev wj_X8_fill_9 : List Nat := [0, 1]
set_option maxHeartbeats 4000000 in
set_option maxRecDepth 100000 in
theorem fr_X8_fill_9 {L : Nat → Nat} {N : Nat}  {u0 σ0 : q_St} {r0 : Int32} (hF : fX8_fill_9 L N u0 = some (r0, σ0)) : Fr wi_X8_fill_9 wa_X8_fill_9 wj_X8_fill_9 u0 σ0 := by
  have hB72 : ∀ (ih4 : Int32 → Int32 → q_St → Option (Int32 × q_St)) (hi4 : ∀ (x2 : Int32) (x3 : Int32) (u : q_St), Fr wi_X8_fill_9 wa_X8_fill_9 wj_X8_fill_9 u0 u → ih4 x2 x3 u = some (r0, σ0) → Fr wi_X8_fill_9 wa_X8_fill_9 wj_X8_fill_9 u0 σ0), ∀ (ih18 : Int32 → Int32 → Int32 → q_St → Option (Int32 × q_St)) (hi18 : ∀ (x2 : Int32) (x3 : Int32) (x4 : Int32) (u : q_St), Fr wi_X8_fill_9 wa_X8_fill_9 wj_X8_fill_9 u0 u → ih18 x2 x3 x4 u = some (r0, σ0) → Fr wi_X8_fill_9 wa_X8_fill_9 wj_X8_fill_9 u0 σ0), ∀ (ih31 : Int32 → Int32 → Int32 → Int64 → Int32 → q_St → Option (Int32 × q_St)) (hi31 : ∀ (x2 : Int32) (x3 : Int32) (x4 : Int32) (x5 : Int64) (x7 : Int32) (u : q_St), Fr wi_X8_fill_9 wa_X8_fill_9 wj_X8_fill_9 u0 u → ih31 x2 x3 x4 x5 x7 u = some (r0, σ0) → Fr wi_X8_fill_9 wa_X8_fill_9 wj_X8_fill_9 u0 σ0), ∀ (x3 : Int32) (x4 : Int32) (x5 : Int64) (x7 : Int32) (y0 : Int32) (u : q_St), Fr wi_X8_fill_9 wa_X8_fill_9 wj_X8_fill_9 u0 u → fX8_fill_9_b72 L N ih4 ih18 ih31 x3 x4 x5 x7 y0 u = some (r0, σ0) → Fr wi_X8_fill_9 wa_X8_fill_9 wj_X8_fill_9 u0 σ0 := by
    intro ih4 hi4 ih18 hi18 ih31 hi31 x3 x4 x5 x7 y0 u hfr hF
    unfold fX8_fill_9_b72 at hF
    obtain ⟨v11, hF⟩ := fr_nm hF
    exact hi31 y0 x3 x4 x5 v11 u hfr hF
  have hB31 : ∀ (ih4 : Int32 → Int32 → q_St → Option (Int32 × q_St)) (hi4 : ∀ (x2 : Int32) (x3 : Int32) (u : q_St), Fr wi_X8_fill_9 wa_X8_fill_9 wj_X8_fill_9 u0 u → ih4 x2 x3 u = some (r0, σ0) → Fr wi_X8_fill_9 wa_X8_fill_9 wj_X8_fill_9 u0 σ0), ∀ (ih18 : Int32 → Int32 → Int32 → q_St → Option (Int32 × q_St)) (hi18 : ∀ (x2 : Int32) (x3 : Int32) (x4 : Int32) (u : q_St), Fr wi_X8_fill_9 wa_X8_fill_9 wj_X8_fill_9 u0 u → ih18 x2 x3 x4 u = some (r0, σ0) → Fr wi_X8_fill_9 wa_X8_fill_9 wj_X8_fill_9 u0 σ0), ∀ (n : Nat) (x2 : Int32) (x3 : Int32) (x4 : Int32) (x5 : Int64) (x7 : Int32) (u : q_St), Fr wi_X8_fill_9 wa_X8_fill_9 wj_X8_fill_9 u0 u → q_lp (fX8_fill_9_b31 L N ih4 ih18) (fun _ _ _ _ _ _ => none) n x2 x3 x4 x5 x7 u = some (r0, σ0) → Fr wi_X8_fill_9 wa_X8_fill_9 wj_X8_fill_9 u0 σ0 := by
    intro ih4 hi4 ih18 hi18 n
    induction n with
    | zero => intro x2 x3 x4 x5 x7 u hfr hF; exact absurd (show (none : Option (Int32 × q_St)) = some _ from hF) (fun h => nomatch h)
    | succ n hi31 =>
      intro x2 x3 x4 x5 x7 u hfr hF
      obtain ⟨ih31, hih⟩ : ∃ q, q = q_lp (fX8_fill_9_b31 L N ih4 ih18) (fun _ _ _ _ _ _ => none) n := ⟨_, rfl⟩
      rw [← hih] at hi31
      have hF : fX8_fill_9_b31 L N ih4 ih18 (q_lp (fX8_fill_9_b31 L N ih4 ih18) (fun _ _ _ _ _ _ => none) n) x2 x3 x4 x5 x7 u = some (r0, σ0) := hF
      rw [← hih] at hF
      clear hih
      unfold fX8_fill_9_b31 at hF
      rcases fr_if hF with hF | hF
      · obtain ⟨u5, hfr, hF⟩ := fr_wj hfr hF (by decide)
        obtain ⟨v6, hF⟩ := fr_nm hF
        exact hi18 x2 x3 v6 u5 hfr hF
      · obtain ⟨r7, u8, hc9, hF⟩ := q_bnd_some hF
        have hfr := hfr.app (fr_X7_byteOf_9 hc9) (by decide) (by decide) (by decide)
        obtain ⟨v10, hF⟩ := fr_nm hF
        rcases fr_if hF with hF | hF
        · exact hB72 ih4 hi4 ih18 hi18 ih31 hi31 x3 x4 v10 x7 0 u8 hfr hF
        · exact hB72 ih4 hi4 ih18 hi18 ih31 hi31 x3 x4 v10 x7 (x2 + 1) u8 hfr hF
  have hB18 : ∀ (ih4 : Int32 → Int32 → q_St → Option (Int32 × q_St)) (hi4 : ∀ (x2 : Int32) (x3 : Int32) (u : q_St), Fr wi_X8_fill_9 wa_X8_fill_9 wj_X8_fill_9 u0 u → ih4 x2 x3 u = some (r0, σ0) → Fr wi_X8_fill_9 wa_X8_fill_9 wj_X8_fill_9 u0 σ0), ∀ (n : Nat) (x2 : Int32) (x3 : Int32) (x4 : Int32) (u : q_St), Fr wi_X8_fill_9 wa_X8_fill_9 wj_X8_fill_9 u0 u → q_lp (fX8_fill_9_b18 L N ih4) (fun _ _ _ _ => none) n x2 x3 x4 u = some (r0, σ0) → Fr wi_X8_fill_9 wa_X8_fill_9 wj_X8_fill_9 u0 σ0 := by
    intro ih4 hi4 n
    induction n with
    | zero => intro x2 x3 x4 u hfr hF; exact absurd (show (none : Option (Int32 × q_St)) = some _ from hF) (fun h => nomatch h)
    | succ n hi18 =>
      intro x2 x3 x4 u hfr hF
      obtain ⟨ih18, hih⟩ : ∃ q, q = q_lp (fX8_fill_9_b18 L N ih4) (fun _ _ _ _ => none) n := ⟨_, rfl⟩
      rw [← hih] at hi18
      have hF : fX8_fill_9_b18 L N ih4 (q_lp (fX8_fill_9_b18 L N ih4) (fun _ _ _ _ => none) n) x2 x3 x4 u = some (r0, σ0) := hF
      rw [← hih] at hF
      clear hih
      unfold fX8_fill_9_b18 at hF
      rcases fr_if hF with hF | hF
      · obtain ⟨r1, u2, hc3, hF⟩ := q_bnd_some hF
        have hfr := hfr.app (fr_X2_writeShingle_18 hc3) (by decide) (by decide) (by decide)
        rcases fr_if hF with hF | hF
        · cases hF; exact hfr
        · obtain ⟨v4, hF⟩ := fr_nm hF
          exact hi4 x2 v4 u2 hfr hF
      · exact hB31 ih4 hi4 ih18 hi18 N x2 x3 x4 0 0 u hfr hF
  have hB4 : ∀ (n : Nat) (x2 : Int32) (x3 : Int32) (u : q_St), Fr wi_X8_fill_9 wa_X8_fill_9 wj_X8_fill_9 u0 u → q_lp (fX8_fill_9_b4 L N) (fun _ _ _ => none) n x2 x3 u = some (r0, σ0) → Fr wi_X8_fill_9 wa_X8_fill_9 wj_X8_fill_9 u0 σ0 := by
    intro n
    induction n with
    | zero => intro x2 x3 u hfr hF; exact absurd (show (none : Option (Int32 × q_St)) = some _ from hF) (fun h => nomatch h)
    | succ n hi4 =>
      intro x2 x3 u hfr hF
      obtain ⟨ih4, hih⟩ : ∃ q, q = q_lp (fX8_fill_9_b4 L N) (fun _ _ _ => none) n := ⟨_, rfl⟩
      rw [← hih] at hi4
      have hF : fX8_fill_9_b4 L N (q_lp (fX8_fill_9_b4 L N) (fun _ _ _ => none) n) x2 x3 u = some (r0, σ0) := hF
      rw [← hih] at hF
      clear hih
      unfold fX8_fill_9_b4 at hF
      rcases fr_if hF with hF | hF
      · cases hF; exact hfr
      · exact hB18 ih4 hi4 N x2 x3 0 u hfr hF
  unfold fX8_fill_9 at hF
  have hfr := Fr.rf wi_X8_fill_9 wa_X8_fill_9 wj_X8_fill_9 u0
  exact hB4 N 0 0 u0 hfr hF
abbrev wi_X8_recover : List Nat := [7, 8, 10, 11, 12, 13, 15, 16, 18, 19, 20, 21]
abbrev wa_X8_recover : List Nat := [0, 1]
abbrev wj_X8_recover : List Nat := [0, 1]
set_option maxHeartbeats 4000000 in
set_option maxRecDepth 100000 in
theorem fr_X8_recover {L : Nat → Nat} {N : Nat}  {u0 σ0 : q_St} {r0 : Int32} (hF : fX8_recover L N u0 = some (r0, σ0)) : Fr wi_X8_recover wa_X8_recover wj_X8_recover u0 σ0 := by
  have hB88 : ∀ (u : q_St), Fr wi_X8_recover wa_X8_recover wj_X8_recover u0 u → fX8_recover_b88 L N u = some (r0, σ0) → Fr wi_X8_recover wa_X8_recover wj_X8_recover u0 σ0 := by
    intro u hfr hF
    unfold fX8_recover_b88 at hF
    cases hF; exact hfr
  have hB62 : ∀ (u : q_St), Fr wi_X8_recover wa_X8_recover wj_X8_recover u0 u → fX8_recover_b62 L N u = some (r0, σ0) → Fr wi_X8_recover wa_X8_recover wj_X8_recover u0 σ0 := by
    intro u hfr hF
    unfold fX8_recover_b62 at hF
    rcases fr_if hF with hF | hF
    · exact hB88 u hfr hF
    · obtain ⟨r2, u3, hc4, hF⟩ := q_bnd_some hF
      have hfr := hfr.app (fr_X8_fill_9 hc4) (by decide) (by decide) (by decide)
      rcases fr_if hF with hF | hF
      · cases hF; exact hfr
      · obtain ⟨r5, u6, hc7, hF⟩ := q_bnd_some hF
        have hfr := hfr.app (fr_X8_endStream hc7) (by decide) (by decide) (by decide)
        rcases fr_if hF with hF | hF
        · cases hF; exact hfr
        · exact hB88 u6 hfr hF
  have hB27 : ∀ (n : Nat) (x1 : Int32) (u : q_St), Fr wi_X8_recover wa_X8_recover wj_X8_recover u0 u → q_lp (fX8_recover_b27 L N) (fun _ _ => none) n x1 u = some (r0, σ0) → Fr wi_X8_recover wa_X8_recover wj_X8_recover u0 σ0 := by
    intro n
    induction n with
    | zero => intro x1 u hfr hF; exact absurd (show (none : Option (Int32 × q_St)) = some _ from hF) (fun h => nomatch h)
    | succ n hi27 =>
      intro x1 u hfr hF
      obtain ⟨ih27, hih⟩ : ∃ q, q = q_lp (fX8_recover_b27 L N) (fun _ _ => none) n := ⟨_, rfl⟩
      rw [← hih] at hi27
      have hF : fX8_recover_b27 L N (q_lp (fX8_recover_b27 L N) (fun _ _ => none) n) x1 u = some (r0, σ0) := hF
      rw [← hih] at hF
      clear hih
      unfold fX8_recover_b27 at hF
      rcases fr_if hF with hF | hF
      · obtain ⟨r8, u9, hc10, hF⟩ := q_bnd_some hF
        have hfr := hfr.app (fr_X8_finish hc10) (by decide) (by decide) (by decide)
        rcases fr_if hF with hF | hF
        · cases hF; exact hfr
        · exact hB62 u9 hfr hF
      · obtain ⟨r11, u12, hc13, hF⟩ := q_bnd_some hF
        have hfr := hfr.app (fr_X8_bringBack hc13) (by decide) (by decide) (by decide)
        rcases fr_if hF with hF | hF
        · cases hF; exact hfr
        · obtain ⟨v14, hF⟩ := fr_nm hF
          exact hi27 v14 u12 hfr hF
  have hB17 : ∀ (u : q_St), Fr wi_X8_recover wa_X8_recover wj_X8_recover u0 u → fX8_recover_b17 L N u = some (r0, σ0) → Fr wi_X8_recover wa_X8_recover wj_X8_recover u0 σ0 := by
    intro u hfr hF
    unfold fX8_recover_b17 at hF
    rcases fr_if hF with hF | hF
    · exact hB62 u hfr hF
    · exact hB27 N 0 u hfr hF
  unfold fX8_recover at hF
  have hfr := Fr.rf wi_X8_recover wa_X8_recover wj_X8_recover u0
  obtain ⟨u1, hfr, hF⟩ := fr_si hfr hF (by decide)
  rcases fr_if hF with hF | hF
  · obtain ⟨u15, hfr, hF⟩ := fr_si hfr hF (by decide)
    exact hB17 u15 hfr hF
  · exact hB17 u1 hfr hF
abbrev wi_X6_writeToldAgain : List Nat := [7, 8, 9, 10, 11, 12, 13, 14, 15, 16, 17, 18, 19, 21]
abbrev wa_X6_writeToldAgain : List Nat := [0, 1, 2, 3, 4]
abbrev wj_X6_writeToldAgain : List Nat := [0, 3]
set_option maxHeartbeats 4000000 in
set_option maxRecDepth 100000 in
theorem fr_X6_writeToldAgain {L : Nat → Nat} {N : Nat}  {u0 σ0 : q_St} {r0 : Int32} (hF : fX6_writeToldAgain L N u0 = some (r0, σ0)) : Fr wi_X6_writeToldAgain wa_X6_writeToldAgain wj_X6_writeToldAgain u0 σ0 := by
  have hB21 : ∀ (n : Nat) (x1 : Int32) (x2 : Int32) (x3 : Int32) (u : q_St), Fr wi_X6_writeToldAgain wa_X6_writeToldAgain wj_X6_writeToldAgain u0 u → q_lp (fX6_writeToldAgain_b21 L N) (fun _ _ _ _ => none) n x1 x2 x3 u = some (r0, σ0) → Fr wi_X6_writeToldAgain wa_X6_writeToldAgain wj_X6_writeToldAgain u0 σ0 := by
    intro n
    induction n with
    | zero => intro x1 x2 x3 u hfr hF; exact absurd (show (none : Option (Int32 × q_St)) = some _ from hF) (fun h => nomatch h)
    | succ n hi21 =>
      intro x1 x2 x3 u hfr hF
      obtain ⟨ih21, hih⟩ : ∃ q, q = q_lp (fX6_writeToldAgain_b21 L N) (fun _ _ _ _ => none) n := ⟨_, rfl⟩
      rw [← hih] at hi21
      have hF : fX6_writeToldAgain_b21 L N (q_lp (fX6_writeToldAgain_b21 L N) (fun _ _ _ _ => none) n) x1 x2 x3 u = some (r0, σ0) := hF
      rw [← hih] at hF
      clear hih
      unfold fX6_writeToldAgain_b21 at hF
      rcases fr_if hF with hF | hF
      · cases hF; exact hfr
      · rcases fr_if hF with hF | hF
        · cases hF; exact hfr
        · obtain ⟨v6, hF⟩ := fr_nm hF
          obtain ⟨r7, u8, hc9, hF⟩ := q_bnd_some hF
          have hfr := hfr.app (fr_X6_word hc9) (by decide) (by decide) (by decide)
          obtain ⟨v10, hF⟩ := fr_nm hF
          obtain ⟨r11, u12, hc13, hF⟩ := q_bnd_some hF
          have hfr := hfr.app (fr_X8_spot hc13) (by decide) (by decide) (by decide)
          obtain ⟨u14, hfr, hF⟩ := fr_cp hfr hF (by decide)
          obtain ⟨r15, u16, hc17, hF⟩ := q_bnd_some hF
          have hfr := hfr.app (fr_X8_write_22 hc17) (by decide) (by decide) (by decide)
          rcases fr_if hF with hF | hF
          · cases hF; exact hfr
          · obtain ⟨v18, hF⟩ := fr_nm hF
            exact hi21 x1 x2 v18 u16 hfr hF
  unfold fX6_writeToldAgain at hF
  have hfr := Fr.rf wi_X6_writeToldAgain wa_X6_writeToldAgain wj_X6_writeToldAgain u0
  obtain ⟨r1, u2, hc3, hF⟩ := q_bnd_some hF
  have hfr := hfr.app (fr_X6_word hc3) (by decide) (by decide) (by decide)
  obtain ⟨v4, hF⟩ := fr_nm hF
  obtain ⟨v5, hF⟩ := fr_nm hF
  exact hB21 N v4 v5 0 u2 hfr hF
abbrev wi_X6_comeBack : List Nat := [7, 8, 9, 10, 11, 12, 13, 14, 15, 16, 17, 18, 19, 20, 21, 22]
abbrev wa_X6_comeBack : List Nat := [0, 1, 2, 3, 4, 5]
abbrev wj_X6_comeBack : List Nat := [0, 1, 3]
set_option maxHeartbeats 4000000 in
set_option maxRecDepth 100000 in
theorem fr_X6_comeBack {L : Nat → Nat} {N : Nat}  {u0 σ0 : q_St} {r0 : Int32} (hF : fX6_comeBack L N u0 = some (r0, σ0)) : Fr wi_X6_comeBack wa_X6_comeBack wj_X6_comeBack u0 σ0 := by
  have hB36 : ∀ (u : q_St), Fr wi_X6_comeBack wa_X6_comeBack wj_X6_comeBack u0 u → fX6_comeBack_b36 L N u = some (r0, σ0) → Fr wi_X6_comeBack wa_X6_comeBack wj_X6_comeBack u0 σ0 := by
    intro u hfr hF
    unfold fX6_comeBack_b36 at hF
    cases hF; exact hfr
  unfold fX6_comeBack at hF
  have hfr := Fr.rf wi_X6_comeBack wa_X6_comeBack wj_X6_comeBack u0
  obtain ⟨u1, hfr, hF⟩ := fr_si hfr hF (by decide)
  obtain ⟨r2, u3, hc4, hF⟩ := q_bnd_some hF
  have hfr := hfr.app (fr_X6_forgetAll hc4) (by decide) (by decide) (by decide)
  obtain ⟨r5, u6, hc7, hF⟩ := q_bnd_some hF
  have hfr := hfr.app (fr_X8_recover hc7) (by decide) (by decide) (by decide)
  rcases fr_if hF with hF | hF
  · cases hF; exact hfr
  · rcases fr_if hF with hF | hF
    · exact hB36 u6 hfr hF
    · obtain ⟨r8, u9, hc10, hF⟩ := q_bnd_some hF
      have hfr := hfr.app (fr_X6_writeToldAgain hc10) (by decide) (by decide) (by decide)
      rcases fr_if hF with hF | hF
      · cases hF; exact hfr
      · exact hB36 u9 hfr hF
abbrev wi_X10_restore : List Nat := [7, 8, 9, 10, 11, 12, 13, 14, 15, 16, 17, 18, 19, 20, 21, 22]
abbrev wa_X10_restore : List Nat := [0, 1, 2, 3, 4, 5]
abbrev wj_X10_restore : List Nat := [0, 1, 3]
set_option maxHeartbeats 4000000 in
set_option maxRecDepth 100000 in
theorem fr_X10_restore {L : Nat → Nat} {N : Nat}  {u0 σ0 : q_St} {r0 : Int32} (hF : fX10_restore L N u0 = some (r0, σ0)) : Fr wi_X10_restore wa_X10_restore wj_X10_restore u0 σ0 := by
  unfold fX10_restore at hF
  have hfr := Fr.rf wi_X10_restore wa_X10_restore wj_X10_restore u0
  obtain ⟨r1, u2, hc3, hF⟩ := q_bnd_some hF
  have hfr := hfr.app (fr_X2_writes hc3) (by decide) (by decide) (by decide)
  obtain ⟨r4, u5, hc6, hF⟩ := q_bnd_some hF
  have hfr := hfr.app (fr_X6_comeBack hc6) (by decide) (by decide) (by decide)
  rcases fr_if hF with hF | hF
  · cases hF; exact hfr
  · obtain ⟨r7, u8, hc9, hF⟩ := q_bnd_some hF
    have hfr := hfr.app (fr_X2_writes hc9) (by decide) (by decide) (by decide)
    cases hF; exact hfr
abbrev wi_X8_liveEntryOf : List Nat := []
abbrev wa_X8_liveEntryOf : List Nat := []
abbrev wj_X8_liveEntryOf : List Nat := []
set_option maxHeartbeats 4000000 in
set_option maxRecDepth 100000 in
theorem fr_X8_liveEntryOf {L : Nat → Nat} {N : Nat} {o1 : Int32} {u0 σ0 : q_St} {r0 : Int32} (hF : fX8_liveEntryOf L N o1 u0 = some (r0, σ0)) : Fr wi_X8_liveEntryOf wa_X8_liveEntryOf wj_X8_liveEntryOf u0 σ0 := by
  unfold fX8_liveEntryOf at hF
  have hfr := Fr.rf wi_X8_liveEntryOf wa_X8_liveEntryOf wj_X8_liveEntryOf u0
  rcases fr_if hF with hF | hF
  · cases hF; exact hfr
  · rcases fr_if hF with hF | hF
    · obtain ⟨v1, hF⟩ := fr_rd hF
      have hF := (q_dv_some hF).2
      obtain ⟨v2, hF⟩ := fr_nm hF
      rcases fr_if hF with hF | hF
      · cases hF; exact hfr
      · rcases fr_if hF with hF | hF
        · cases hF; exact hfr
        · obtain ⟨v3, hF⟩ := fr_rd hF
          rcases fr_if hF with hF | hF
          · cases hF; exact hfr
          · cases hF; exact hfr
    · cases hF; exact hfr
abbrev wi_X10_where : List Nat := []
abbrev wa_X10_where : List Nat := []
abbrev wj_X10_where : List Nat := []
set_option maxHeartbeats 4000000 in
set_option maxRecDepth 100000 in
theorem fr_X10_where {L : Nat → Nat} {N : Nat} {o1 : Int32} {u0 σ0 : q_St} {r0 : Int32} (hF : fX10_where L N o1 u0 = some (r0, σ0)) : Fr wi_X10_where wa_X10_where wj_X10_where u0 σ0 := by
  have hB28 : ∀ (u : q_St), Fr wi_X10_where wa_X10_where wj_X10_where u0 u → fX10_where_b28 L N u = some (r0, σ0) → Fr wi_X10_where wa_X10_where wj_X10_where u0 σ0 := by
    intro u hfr hF
    unfold fX10_where_b28 at hF
    cases hF; exact hfr
  unfold fX10_where at hF
  have hfr := Fr.rf wi_X10_where wa_X10_where wj_X10_where u0
  rcases fr_if hF with hF | hF
  · cases hF; exact hfr
  · rcases fr_if hF with hF | hF
    · exact hB28 u0 hfr hF
    · rcases fr_if hF with hF | hF
      · obtain ⟨r1, u2, hc3, hF⟩ := q_bnd_some hF
        have hfr := hfr.app (fr_X8_liveEntryOf hc3) (by decide) (by decide) (by decide)
        cases hF; exact hfr
      · exact hB28 u0 hfr hF
abbrev wi_X10_mark : List Nat := []
abbrev wa_X10_mark : List Nat := []
abbrev wj_X10_mark : List Nat := []
set_option maxHeartbeats 4000000 in
set_option maxRecDepth 100000 in
theorem fr_X10_mark {L : Nat → Nat} {N : Nat} {o1 : Int32} {u0 σ0 : q_St} {r0 : Int32} (hF : fX10_mark L N o1 u0 = some (r0, σ0)) : Fr wi_X10_mark wa_X10_mark wj_X10_mark u0 σ0 := by
  have hB29 : ∀ (u : q_St), Fr wi_X10_mark wa_X10_mark wj_X10_mark u0 u → fX10_mark_b29 L N u = some (r0, σ0) → Fr wi_X10_mark wa_X10_mark wj_X10_mark u0 σ0 := by
    intro u hfr hF
    unfold fX10_mark_b29 at hF
    cases hF; exact hfr
  unfold fX10_mark at hF
  have hfr := Fr.rf wi_X10_mark wa_X10_mark wj_X10_mark u0
  rcases fr_if hF with hF | hF
  · cases hF; exact hfr
  · rcases fr_if hF with hF | hF
    · exact hB29 u0 hfr hF
    · rcases fr_if hF with hF | hF
      · obtain ⟨v1, hF⟩ := fr_rd hF
        cases hF; exact hfr
      · exact hB29 u0 hfr hF
abbrev wi_X2_lostNow : List Nat := []
abbrev wa_X2_lostNow : List Nat := []
abbrev wj_X2_lostNow : List Nat := []
set_option maxHeartbeats 4000000 in
set_option maxRecDepth 100000 in
theorem fr_X2_lostNow {L : Nat → Nat} {N : Nat}  {u0 σ0 : q_St} {r0 : Int32} (hF : fX2_lostNow L N u0 = some (r0, σ0)) : Fr wi_X2_lostNow wa_X2_lostNow wj_X2_lostNow u0 σ0 := by
  have hB25 : ∀ (ih4 : Int32 → Int32 → q_St → Option (Int32 × q_St)) (hi4 : ∀ (x1 : Int32) (x2 : Int32) (u : q_St), Fr wi_X2_lostNow wa_X2_lostNow wj_X2_lostNow u0 u → ih4 x1 x2 u = some (r0, σ0) → Fr wi_X2_lostNow wa_X2_lostNow wj_X2_lostNow u0 σ0), ∀ (x1 : Int32) (x2 : Int32) (u : q_St), Fr wi_X2_lostNow wa_X2_lostNow wj_X2_lostNow u0 u → fX2_lostNow_b25 L N ih4 x1 x2 u = some (r0, σ0) → Fr wi_X2_lostNow wa_X2_lostNow wj_X2_lostNow u0 σ0 := by
    intro ih4 hi4 x1 x2 u hfr hF
    unfold fX2_lostNow_b25 at hF
    obtain ⟨v2, hF⟩ := fr_nm hF
    exact hi4 x1 v2 u hfr hF
  have hB4 : ∀ (n : Nat) (x1 : Int32) (x2 : Int32) (u : q_St), Fr wi_X2_lostNow wa_X2_lostNow wj_X2_lostNow u0 u → q_lp (fX2_lostNow_b4 L N) (fun _ _ _ => none) n x1 x2 u = some (r0, σ0) → Fr wi_X2_lostNow wa_X2_lostNow wj_X2_lostNow u0 σ0 := by
    intro n
    induction n with
    | zero => intro x1 x2 u hfr hF; exact absurd (show (none : Option (Int32 × q_St)) = some _ from hF) (fun h => nomatch h)
    | succ n hi4 =>
      intro x1 x2 u hfr hF
      obtain ⟨ih4, hih⟩ : ∃ q, q = q_lp (fX2_lostNow_b4 L N) (fun _ _ _ => none) n := ⟨_, rfl⟩
      rw [← hih] at hi4
      have hF : fX2_lostNow_b4 L N (q_lp (fX2_lostNow_b4 L N) (fun _ _ _ => none) n) x1 x2 u = some (r0, σ0) := hF
      rw [← hih] at hF
      clear hih
      unfold fX2_lostNow_b4 at hF
      rcases fr_if hF with hF | hF
      · cases hF; exact hfr
      · obtain ⟨v1, hF⟩ := fr_rd hF
        rcases fr_if hF with hF | hF
        · exact hB25 ih4 hi4 x1 x2 u hfr hF
        · obtain ⟨v3, hF⟩ := fr_nm hF
          exact hB25 ih4 hi4 v3 x2 u hfr hF
  unfold fX2_lostNow at hF
  have hfr := Fr.rf wi_X2_lostNow wa_X2_lostNow wj_X2_lostNow u0
  exact hB4 N 0 0 u0 hfr hF
abbrev wi_X8_liveEntries : List Nat := []
abbrev wa_X8_liveEntries : List Nat := []
abbrev wj_X8_liveEntries : List Nat := []
set_option maxHeartbeats 4000000 in
set_option maxRecDepth 100000 in
theorem fr_X8_liveEntries {L : Nat → Nat} {N : Nat}  {u0 σ0 : q_St} {r0 : Int32} (hF : fX8_liveEntries L N u0 = some (r0, σ0)) : Fr wi_X8_liveEntries wa_X8_liveEntries wj_X8_liveEntries u0 σ0 := by
  have hB26 : ∀ (ih7 : Int32 → Int32 → q_St → Option (Int32 × q_St)) (hi7 : ∀ (x1 : Int32) (x2 : Int32) (u : q_St), Fr wi_X8_liveEntries wa_X8_liveEntries wj_X8_liveEntries u0 u → ih7 x1 x2 u = some (r0, σ0) → Fr wi_X8_liveEntries wa_X8_liveEntries wj_X8_liveEntries u0 σ0), ∀ (x1 : Int32) (x2 : Int32) (u : q_St), Fr wi_X8_liveEntries wa_X8_liveEntries wj_X8_liveEntries u0 u → fX8_liveEntries_b26 L N ih7 x1 x2 u = some (r0, σ0) → Fr wi_X8_liveEntries wa_X8_liveEntries wj_X8_liveEntries u0 σ0 := by
    intro ih7 hi7 x1 x2 u hfr hF
    unfold fX8_liveEntries_b26 at hF
    obtain ⟨v5, hF⟩ := fr_nm hF
    exact hi7 x1 v5 u hfr hF
  have hB7 : ∀ (n : Nat) (x1 : Int32) (x2 : Int32) (u : q_St), Fr wi_X8_liveEntries wa_X8_liveEntries wj_X8_liveEntries u0 u → q_lp (fX8_liveEntries_b7 L N) (fun _ _ _ => none) n x1 x2 u = some (r0, σ0) → Fr wi_X8_liveEntries wa_X8_liveEntries wj_X8_liveEntries u0 σ0 := by
    intro n
    induction n with
    | zero => intro x1 x2 u hfr hF; exact absurd (show (none : Option (Int32 × q_St)) = some _ from hF) (fun h => nomatch h)
    | succ n hi7 =>
      intro x1 x2 u hfr hF
      obtain ⟨ih7, hih⟩ : ∃ q, q = q_lp (fX8_liveEntries_b7 L N) (fun _ _ _ => none) n := ⟨_, rfl⟩
      rw [← hih] at hi7
      have hF : fX8_liveEntries_b7 L N (q_lp (fX8_liveEntries_b7 L N) (fun _ _ _ => none) n) x1 x2 u = some (r0, σ0) := hF
      rw [← hih] at hF
      clear hih
      unfold fX8_liveEntries_b7 at hF
      rcases fr_if hF with hF | hF
      · cases hF; exact hfr
      · obtain ⟨r2, u3, hc4, hF⟩ := q_bnd_some hF
        have hfr := hfr.app (fr_X8_isLive hc4) (by decide) (by decide) (by decide)
        rcases fr_if hF with hF | hF
        · exact hB26 ih7 hi7 x1 x2 u3 hfr hF
        · obtain ⟨v6, hF⟩ := fr_nm hF
          exact hB26 ih7 hi7 v6 x2 u3 hfr hF
  unfold fX8_liveEntries at hF
  have hfr := Fr.rf wi_X8_liveEntries wa_X8_liveEntries wj_X8_liveEntries u0
  obtain ⟨v1, hF⟩ := fr_nm hF
  exact hB7 N 0 v1 u0 hfr hF
abbrev wi_X4_freeCount : List Nat := [13]
abbrev wa_X4_freeCount : List Nat := []
abbrev wj_X4_freeCount : List Nat := []
set_option maxHeartbeats 4000000 in
set_option maxRecDepth 100000 in
theorem fr_X4_freeCount {L : Nat → Nat} {N : Nat}  {u0 σ0 : q_St} {r0 : Int32} (hF : fX4_freeCount L N u0 = some (r0, σ0)) : Fr wi_X4_freeCount wa_X4_freeCount wj_X4_freeCount u0 σ0 := by
  have hB21 : ∀ (ih4 : Int32 → Int32 → q_St → Option (Int32 × q_St)) (hi4 : ∀ (x1 : Int32) (x2 : Int32) (u : q_St), Fr wi_X4_freeCount wa_X4_freeCount wj_X4_freeCount u0 u → ih4 x1 x2 u = some (r0, σ0) → Fr wi_X4_freeCount wa_X4_freeCount wj_X4_freeCount u0 σ0), ∀ (x1 : Int32) (x2 : Int32) (u : q_St), Fr wi_X4_freeCount wa_X4_freeCount wj_X4_freeCount u0 u → fX4_freeCount_b21 L N ih4 x1 x2 u = some (r0, σ0) → Fr wi_X4_freeCount wa_X4_freeCount wj_X4_freeCount u0 σ0 := by
    intro ih4 hi4 x1 x2 u hfr hF
    unfold fX4_freeCount_b21 at hF
    obtain ⟨v4, hF⟩ := fr_nm hF
    exact hi4 x1 v4 u hfr hF
  have hB4 : ∀ (n : Nat) (x1 : Int32) (x2 : Int32) (u : q_St), Fr wi_X4_freeCount wa_X4_freeCount wj_X4_freeCount u0 u → q_lp (fX4_freeCount_b4 L N) (fun _ _ _ => none) n x1 x2 u = some (r0, σ0) → Fr wi_X4_freeCount wa_X4_freeCount wj_X4_freeCount u0 σ0 := by
    intro n
    induction n with
    | zero => intro x1 x2 u hfr hF; exact absurd (show (none : Option (Int32 × q_St)) = some _ from hF) (fun h => nomatch h)
    | succ n hi4 =>
      intro x1 x2 u hfr hF
      obtain ⟨ih4, hih⟩ : ∃ q, q = q_lp (fX4_freeCount_b4 L N) (fun _ _ _ => none) n := ⟨_, rfl⟩
      rw [← hih] at hi4
      have hF : fX4_freeCount_b4 L N (q_lp (fX4_freeCount_b4 L N) (fun _ _ _ => none) n) x1 x2 u = some (r0, σ0) := hF
      rw [← hih] at hF
      clear hih
      unfold fX4_freeCount_b4 at hF
      rcases fr_if hF with hF | hF
      · cases hF; exact hfr
      · obtain ⟨r1, u2, hc3, hF⟩ := q_bnd_some hF
        have hfr := hfr.app (fr_X4_kindOf hc3) (by decide) (by decide) (by decide)
        rcases fr_if hF with hF | hF
        · obtain ⟨v5, hF⟩ := fr_nm hF
          exact hB21 ih4 hi4 v5 x2 u2 hfr hF
        · exact hB21 ih4 hi4 x1 x2 u2 hfr hF
  unfold fX4_freeCount at hF
  have hfr := Fr.rf wi_X4_freeCount wa_X4_freeCount wj_X4_freeCount u0
  exact hB4 N 0 0 u0 hfr hF
abbrev wi_X10_countInMemory : List Nat := [13]
abbrev wa_X10_countInMemory : List Nat := []
abbrev wj_X10_countInMemory : List Nat := []
set_option maxHeartbeats 4000000 in
set_option maxRecDepth 100000 in
theorem fr_X10_countInMemory {L : Nat → Nat} {N : Nat} {o1 : Int32} {u0 σ0 : q_St} {r0 : Int32} (hF : fX10_countInMemory L N o1 u0 = some (r0, σ0)) : Fr wi_X10_countInMemory wa_X10_countInMemory wj_X10_countInMemory u0 σ0 := by
  unfold fX10_countInMemory at hF
  have hfr := Fr.rf wi_X10_countInMemory wa_X10_countInMemory wj_X10_countInMemory u0
  rcases fr_if hF with hF | hF
  · obtain ⟨r1, u2, hc3, hF⟩ := q_bnd_some hF
    have hfr := hfr.app (fr_X8_freePlaces hc3) (by decide) (by decide) (by decide)
    cases hF; exact hfr
  rcases fr_if hF with hF | hF
  · obtain ⟨r4, u5, hc6, hF⟩ := q_bnd_some hF
    have hfr := hfr.app (fr_X8_liveEntries hc6) (by decide) (by decide) (by decide)
    cases hF; exact hfr
  rcases fr_if hF with hF | hF
  · cases hF; exact hfr
  rcases fr_if hF with hF | hF
  · obtain ⟨r7, u8, hc9, hF⟩ := q_bnd_some hF
    have hfr := hfr.app (fr_X5_freeCount hc9) (by decide) (by decide) (by decide)
    cases hF; exact hfr
  rcases fr_if hF with hF | hF
  · obtain ⟨r10, u11, hc12, hF⟩ := q_bnd_some hF
    have hfr := hfr.app (fr_X4_freeCount hc12) (by decide) (by decide) (by decide)
    cases hF; exact hfr
  rcases fr_if hF with hF | hF
  · cases hF; exact hfr
  rcases fr_if hF with hF | hF
  · obtain ⟨r13, u14, hc15, hF⟩ := q_bnd_some hF
    have hfr := hfr.app (fr_X8_nextKind hc15) (by decide) (by decide) (by decide)
    cases hF; exact hfr
  cases hF; exact hfr
abbrev wi_X10_count : List Nat := [13]
abbrev wa_X10_count : List Nat := []
abbrev wj_X10_count : List Nat := []
set_option maxHeartbeats 4000000 in
set_option maxRecDepth 100000 in
theorem fr_X10_count {L : Nat → Nat} {N : Nat} {o1 : Int32} {u0 σ0 : q_St} {r0 : Int32} (hF : fX10_count L N o1 u0 = some (r0, σ0)) : Fr wi_X10_count wa_X10_count wj_X10_count u0 σ0 := by
  unfold fX10_count at hF
  have hfr := Fr.rf wi_X10_count wa_X10_count wj_X10_count u0
  rcases fr_if hF with hF | hF
  · cases hF; exact hfr
  rcases fr_if hF with hF | hF
  · cases hF; exact hfr
  rcases fr_if hF with hF | hF
  · cases hF; exact hfr
  rcases fr_if hF with hF | hF
  · cases hF; exact hfr
  rcases fr_if hF with hF | hF
  · cases hF; exact hfr
  rcases fr_if hF with hF | hF
  · cases hF; exact hfr
  rcases fr_if hF with hF | hF
  · cases hF; exact hfr
  rcases fr_if hF with hF | hF
  · obtain ⟨r1, u2, hc3, hF⟩ := q_bnd_some hF
    have hfr := hfr.app (fr_X2_lostNow hc3) (by decide) (by decide) (by decide)
    cases hF; exact hfr
  rcases fr_if hF with hF | hF
  · cases hF; exact hfr
  rcases fr_if hF with hF | hF
  · cases hF; exact hfr
  · obtain ⟨r4, u5, hc6, hF⟩ := q_bnd_some hF
    have hfr := hfr.app (fr_X10_countInMemory hc6) (by decide) (by decide) (by decide)
    cases hF; exact hfr
abbrev wi_X11_tape : List Nat := [27]
abbrev wa_X11_tape : List Nat := [35]
abbrev wj_X11_tape : List Nat := []
set_option maxHeartbeats 4000000 in
set_option maxRecDepth 100000 in
theorem fr_X11_tape {N : Nat} {o1 : Int32} {u0 σ0 : q_St} {r0 : Unit} (hF : fX11_tape N o1 u0 = some (r0, σ0)) : Fr wi_X11_tape wa_X11_tape wj_X11_tape u0 σ0 := by
  have hB3 : ∀ (n : Nat) (x1 : Int32) (x2 : Int32) (u : q_St), Fr wi_X11_tape wa_X11_tape wj_X11_tape u0 u → q_lp (fX11_tape_b3 N) (fun _ _ _ => none) n x1 x2 u = some (r0, σ0) → Fr wi_X11_tape wa_X11_tape wj_X11_tape u0 σ0 := by
    intro n
    induction n with
    | zero => intro x1 x2 u hfr hF; exact absurd (show (none : Option (Unit × q_St)) = some _ from hF) (fun h => nomatch h)
    | succ n hi3 =>
      intro x1 x2 u hfr hF
      obtain ⟨ih3, hih⟩ : ∃ q, q = q_lp (fX11_tape_b3 N) (fun _ _ _ => none) n := ⟨_, rfl⟩
      rw [← hih] at hi3
      have hF : fX11_tape_b3 N (q_lp (fX11_tape_b3 N) (fun _ _ _ => none) n) x1 x2 u = some (r0, σ0) := hF
      rw [← hih] at hF
      clear hih
      unfold fX11_tape_b3 at hF
      rcases fr_if hF with hF | hF
      · cases hF; exact hfr
      · obtain ⟨u1, hfr, hF⟩ := fr_wa hfr hF (by decide)
        obtain ⟨u2, hfr, hF⟩ := fr_si hfr hF (by decide)
        obtain ⟨v3, hF⟩ := fr_nm hF
        exact hi3 x1 v3 u2 hfr hF
  unfold fX11_tape at hF
  have hfr := Fr.rf wi_X11_tape wa_X11_tape wj_X11_tape u0
  exact hB3 N o1 24 u0 hfr hF
abbrev wi_X11_feed : List Nat := [27]
abbrev wa_X11_feed : List Nat := [35]
abbrev wj_X11_feed : List Nat := []
set_option maxHeartbeats 4000000 in
set_option maxRecDepth 100000 in
theorem fr_X11_feed {N : Nat} {o1 : Int32} {o2 : Int32} {o3 : Int32} {o4 : Int32} {o5 : Int32} {u0 σ0 : q_St} {r0 : Int32} (hF : fX11_feed N o1 o2 o3 o4 o5 u0 = some (r0, σ0)) : Fr wi_X11_feed wa_X11_feed wj_X11_feed u0 σ0 := by
  unfold fX11_feed at hF
  have hfr := Fr.rf wi_X11_feed wa_X11_feed wj_X11_feed u0
  rcases fr_if hF with hF | hF
  · obtain ⟨r1, u2, hc3, hF⟩ := q_bnd_some hF
    have hfr := hfr.app (fr_X11_tape hc3) (by decide) (by decide) (by decide)
    obtain ⟨r4, u5, hc6, hF⟩ := q_bnd_some hF
    have hfr := hfr.app (fr_X11_tape hc6) (by decide) (by decide) (by decide)
    obtain ⟨r7, u8, hc9, hF⟩ := q_bnd_some hF
    have hfr := hfr.app (fr_X11_tape hc9) (by decide) (by decide) (by decide)
    obtain ⟨r10, u11, hc12, hF⟩ := q_bnd_some hF
    have hfr := hfr.app (fr_X11_tape hc12) (by decide) (by decide) (by decide)
    obtain ⟨r13, u14, hc15, hF⟩ := q_bnd_some hF
    have hfr := hfr.app (fr_X11_tape hc15) (by decide) (by decide) (by decide)
    cases hF; exact hfr
  · cases hF; exact hfr
abbrev wi_X11_end : List Nat := [27]
abbrev wa_X11_end : List Nat := []
abbrev wj_X11_end : List Nat := []
set_option maxHeartbeats 4000000 in
set_option maxRecDepth 100000 in
theorem fr_X11_end {N : Nat} {o1 : Int32} {u0 σ0 : q_St} {r0 : Int32} (hF : fX11_end N o1 u0 = some (r0, σ0)) : Fr wi_X11_end wa_X11_end wj_X11_end u0 σ0 := by
  unfold fX11_end at hF
  have hfr := Fr.rf wi_X11_end wa_X11_end wj_X11_end u0
  rcases fr_if hF with hF | hF
  · cases hF; exact hfr
  · rcases fr_if hF with hF | hF
    · obtain ⟨u1, hfr, hF⟩ := fr_si hfr hF (by decide)
      cases hF; exact hfr
    · cases hF; exact hfr
abbrev wi_X11_keep : List Nat := []
abbrev wa_X11_keep : List Nat := [19, 20, 21, 22, 23, 24, 25, 26, 27, 28, 29, 30, 31, 32]
abbrev wj_X11_keep : List Nat := [1]
set_option maxHeartbeats 4000000 in
set_option maxRecDepth 100000 in
theorem fr_X11_keep {N : Nat}  {u0 σ0 : q_St} {r0 : Unit} (hF : fX11_keep N u0 = some (r0, σ0)) : Fr wi_X11_keep wa_X11_keep wj_X11_keep u0 σ0 := by
  have hB309 : ∀ (ih246 : Int32 → q_St → Option (Unit × q_St)) (hi246 : ∀ (x1 : Int32) (u : q_St), Fr wi_X11_keep wa_X11_keep wj_X11_keep u0 u → ih246 x1 u = some (r0, σ0) → Fr wi_X11_keep wa_X11_keep wj_X11_keep u0 σ0), ∀ (x1 : Int32) (u : q_St), Fr wi_X11_keep wa_X11_keep wj_X11_keep u0 u → fX11_keep_b309 N ih246 x1 u = some (r0, σ0) → Fr wi_X11_keep wa_X11_keep wj_X11_keep u0 σ0 := by
    intro ih246 hi246 x1 u hfr hF
    unfold fX11_keep_b309 at hF
    obtain ⟨v4, hF⟩ := fr_nm hF
    exact hi246 v4 u hfr hF
  have hB271 : ∀ (ih246 : Int32 → q_St → Option (Unit × q_St)) (hi246 : ∀ (x1 : Int32) (u : q_St), Fr wi_X11_keep wa_X11_keep wj_X11_keep u0 u → ih246 x1 u = some (r0, σ0) → Fr wi_X11_keep wa_X11_keep wj_X11_keep u0 σ0), ∀ (n : Nat) (x1 : Int32) (x2 : Int32) (u : q_St), Fr wi_X11_keep wa_X11_keep wj_X11_keep u0 u → q_lp (fX11_keep_b271 N ih246) (fun _ _ _ => none) n x1 x2 u = some (r0, σ0) → Fr wi_X11_keep wa_X11_keep wj_X11_keep u0 σ0 := by
    intro ih246 hi246 n
    induction n with
    | zero => intro x1 x2 u hfr hF; exact absurd (show (none : Option (Unit × q_St)) = some _ from hF) (fun h => nomatch h)
    | succ n hi271 =>
      intro x1 x2 u hfr hF
      obtain ⟨ih271, hih⟩ : ∃ q, q = q_lp (fX11_keep_b271 N ih246) (fun _ _ _ => none) n := ⟨_, rfl⟩
      rw [← hih] at hi271
      have hF : fX11_keep_b271 N ih246 (q_lp (fX11_keep_b271 N ih246) (fun _ _ _ => none) n) x1 x2 u = some (r0, σ0) := hF
      rw [← hih] at hF
      clear hih
      unfold fX11_keep_b271 at hF
      rcases fr_if hF with hF | hF
      · exact hB309 ih246 hi246 x1 u hfr hF
      · obtain ⟨v5, hF⟩ := fr_rd hF
        rcases fr_if hF with hF | hF
        · exact hB309 ih246 hi246 x1 u hfr hF
        · obtain ⟨v6, hF⟩ := fr_rd hF
          obtain ⟨u7, hfr, hF⟩ := fr_wa hfr hF (by decide)
          obtain ⟨v8, hF⟩ := fr_nm hF
          exact hi271 x1 v8 u7 hfr hF
  have hB246 : ∀ (n : Nat) (x1 : Int32) (u : q_St), Fr wi_X11_keep wa_X11_keep wj_X11_keep u0 u → q_lp (fX11_keep_b246 N) (fun _ _ => none) n x1 u = some (r0, σ0) → Fr wi_X11_keep wa_X11_keep wj_X11_keep u0 σ0 := by
    intro n
    induction n with
    | zero => intro x1 u hfr hF; exact absurd (show (none : Option (Unit × q_St)) = some _ from hF) (fun h => nomatch h)
    | succ n hi246 =>
      intro x1 u hfr hF
      obtain ⟨ih246, hih⟩ : ∃ q, q = q_lp (fX11_keep_b246 N) (fun _ _ => none) n := ⟨_, rfl⟩
      rw [← hih] at hi246
      have hF : fX11_keep_b246 N (q_lp (fX11_keep_b246 N) (fun _ _ => none) n) x1 u = some (r0, σ0) := hF
      rw [← hih] at hF
      clear hih
      unfold fX11_keep_b246 at hF
      rcases fr_if hF with hF | hF
      · cases hF; exact hfr
      · obtain ⟨v1, hF⟩ := fr_rd hF
        obtain ⟨u2, hfr, hF⟩ := fr_wa hfr hF (by decide)
        obtain ⟨v3, hF⟩ := fr_nm hF
        exact hB271 ih246 hi246 N x1 v3 u2 hfr hF
  have hB207 : ∀ (n : Nat) (x1 : Int32) (u : q_St), Fr wi_X11_keep wa_X11_keep wj_X11_keep u0 u → q_lp (fX11_keep_b207 N) (fun _ _ => none) n x1 u = some (r0, σ0) → Fr wi_X11_keep wa_X11_keep wj_X11_keep u0 σ0 := by
    intro n
    induction n with
    | zero => intro x1 u hfr hF; exact absurd (show (none : Option (Unit × q_St)) = some _ from hF) (fun h => nomatch h)
    | succ n hi207 =>
      intro x1 u hfr hF
      obtain ⟨ih207, hih⟩ : ∃ q, q = q_lp (fX11_keep_b207 N) (fun _ _ => none) n := ⟨_, rfl⟩
      rw [← hih] at hi207
      have hF : fX11_keep_b207 N (q_lp (fX11_keep_b207 N) (fun _ _ => none) n) x1 u = some (r0, σ0) := hF
      rw [← hih] at hF
      clear hih
      unfold fX11_keep_b207 at hF
      rcases fr_if hF with hF | hF
      · exact hB246 N 0 u hfr hF
      · obtain ⟨v9, hF⟩ := fr_rd hF
        obtain ⟨u10, hfr, hF⟩ := fr_wa hfr hF (by decide)
        obtain ⟨v11, hF⟩ := fr_rd hF
        obtain ⟨u12, hfr, hF⟩ := fr_wj hfr hF (by decide)
        obtain ⟨v13, hF⟩ := fr_nm hF
        exact hi207 v13 u12 hfr hF
  have hB180 : ∀ (n : Nat) (x1 : Int32) (u : q_St), Fr wi_X11_keep wa_X11_keep wj_X11_keep u0 u → q_lp (fX11_keep_b180 N) (fun _ _ => none) n x1 u = some (r0, σ0) → Fr wi_X11_keep wa_X11_keep wj_X11_keep u0 σ0 := by
    intro n
    induction n with
    | zero => intro x1 u hfr hF; exact absurd (show (none : Option (Unit × q_St)) = some _ from hF) (fun h => nomatch h)
    | succ n hi180 =>
      intro x1 u hfr hF
      obtain ⟨ih180, hih⟩ : ∃ q, q = q_lp (fX11_keep_b180 N) (fun _ _ => none) n := ⟨_, rfl⟩
      rw [← hih] at hi180
      have hF : fX11_keep_b180 N (q_lp (fX11_keep_b180 N) (fun _ _ => none) n) x1 u = some (r0, σ0) := hF
      rw [← hih] at hF
      clear hih
      unfold fX11_keep_b180 at hF
      rcases fr_if hF with hF | hF
      · exact hB207 N 0 u hfr hF
      · obtain ⟨v14, hF⟩ := fr_rd hF
        obtain ⟨u15, hfr, hF⟩ := fr_wa hfr hF (by decide)
        obtain ⟨v16, hF⟩ := fr_nm hF
        exact hi180 v16 u15 hfr hF
  have hB153 : ∀ (n : Nat) (x1 : Int32) (u : q_St), Fr wi_X11_keep wa_X11_keep wj_X11_keep u0 u → q_lp (fX11_keep_b153 N) (fun _ _ => none) n x1 u = some (r0, σ0) → Fr wi_X11_keep wa_X11_keep wj_X11_keep u0 σ0 := by
    intro n
    induction n with
    | zero => intro x1 u hfr hF; exact absurd (show (none : Option (Unit × q_St)) = some _ from hF) (fun h => nomatch h)
    | succ n hi153 =>
      intro x1 u hfr hF
      obtain ⟨ih153, hih⟩ : ∃ q, q = q_lp (fX11_keep_b153 N) (fun _ _ => none) n := ⟨_, rfl⟩
      rw [← hih] at hi153
      have hF : fX11_keep_b153 N (q_lp (fX11_keep_b153 N) (fun _ _ => none) n) x1 u = some (r0, σ0) := hF
      rw [← hih] at hF
      clear hih
      unfold fX11_keep_b153 at hF
      rcases fr_if hF with hF | hF
      · exact hB180 N 0 u hfr hF
      · obtain ⟨v17, hF⟩ := fr_rd hF
        obtain ⟨u18, hfr, hF⟩ := fr_wa hfr hF (by decide)
        obtain ⟨v19, hF⟩ := fr_nm hF
        exact hi153 v19 u18 hfr hF
  have hB127 : ∀ (n : Nat) (x1 : Int32) (u : q_St), Fr wi_X11_keep wa_X11_keep wj_X11_keep u0 u → q_lp (fX11_keep_b127 N) (fun _ _ => none) n x1 u = some (r0, σ0) → Fr wi_X11_keep wa_X11_keep wj_X11_keep u0 σ0 := by
    intro n
    induction n with
    | zero => intro x1 u hfr hF; exact absurd (show (none : Option (Unit × q_St)) = some _ from hF) (fun h => nomatch h)
    | succ n hi127 =>
      intro x1 u hfr hF
      obtain ⟨ih127, hih⟩ : ∃ q, q = q_lp (fX11_keep_b127 N) (fun _ _ => none) n := ⟨_, rfl⟩
      rw [← hih] at hi127
      have hF : fX11_keep_b127 N (q_lp (fX11_keep_b127 N) (fun _ _ => none) n) x1 u = some (r0, σ0) := hF
      rw [← hih] at hF
      clear hih
      unfold fX11_keep_b127 at hF
      rcases fr_if hF with hF | hF
      · exact hB153 N 0 u hfr hF
      · obtain ⟨v20, hF⟩ := fr_rd hF
        obtain ⟨u21, hfr, hF⟩ := fr_wa hfr hF (by decide)
        obtain ⟨v22, hF⟩ := fr_nm hF
        exact hi127 v22 u21 hfr hF
  have hB100 : ∀ (n : Nat) (x1 : Int32) (u : q_St), Fr wi_X11_keep wa_X11_keep wj_X11_keep u0 u → q_lp (fX11_keep_b100 N) (fun _ _ => none) n x1 u = some (r0, σ0) → Fr wi_X11_keep wa_X11_keep wj_X11_keep u0 σ0 := by
    intro n
    induction n with
    | zero => intro x1 u hfr hF; exact absurd (show (none : Option (Unit × q_St)) = some _ from hF) (fun h => nomatch h)
    | succ n hi100 =>
      intro x1 u hfr hF
      obtain ⟨ih100, hih⟩ : ∃ q, q = q_lp (fX11_keep_b100 N) (fun _ _ => none) n := ⟨_, rfl⟩
      rw [← hih] at hi100
      have hF : fX11_keep_b100 N (q_lp (fX11_keep_b100 N) (fun _ _ => none) n) x1 u = some (r0, σ0) := hF
      rw [← hih] at hF
      clear hih
      unfold fX11_keep_b100 at hF
      rcases fr_if hF with hF | hF
      · exact hB127 N 0 u hfr hF
      · obtain ⟨v23, hF⟩ := fr_rd hF
        obtain ⟨u24, hfr, hF⟩ := fr_wa hfr hF (by decide)
        obtain ⟨v25, hF⟩ := fr_nm hF
        exact hi100 v25 u24 hfr hF
  have hB2 : ∀ (n : Nat) (x1 : Int32) (u : q_St), Fr wi_X11_keep wa_X11_keep wj_X11_keep u0 u → q_lp (fX11_keep_b2 N) (fun _ _ => none) n x1 u = some (r0, σ0) → Fr wi_X11_keep wa_X11_keep wj_X11_keep u0 σ0 := by
    intro n
    induction n with
    | zero => intro x1 u hfr hF; exact absurd (show (none : Option (Unit × q_St)) = some _ from hF) (fun h => nomatch h)
    | succ n hi2 =>
      intro x1 u hfr hF
      obtain ⟨ih2, hih⟩ : ∃ q, q = q_lp (fX11_keep_b2 N) (fun _ _ => none) n := ⟨_, rfl⟩
      rw [← hih] at hi2
      have hF : fX11_keep_b2 N (q_lp (fX11_keep_b2 N) (fun _ _ => none) n) x1 u = some (r0, σ0) := hF
      rw [← hih] at hF
      clear hih
      unfold fX11_keep_b2 at hF
      rcases fr_if hF with hF | hF
      · exact hB100 N 0 u hfr hF
      · obtain ⟨v26, hF⟩ := fr_rd hF
        obtain ⟨u27, hfr, hF⟩ := fr_wa hfr hF (by decide)
        obtain ⟨v28, hF⟩ := fr_rd hF
        obtain ⟨u29, hfr, hF⟩ := fr_wa hfr hF (by decide)
        obtain ⟨v30, hF⟩ := fr_rd hF
        obtain ⟨u31, hfr, hF⟩ := fr_wa hfr hF (by decide)
        obtain ⟨v32, hF⟩ := fr_rd hF
        obtain ⟨u33, hfr, hF⟩ := fr_wa hfr hF (by decide)
        obtain ⟨v34, hF⟩ := fr_rd hF
        obtain ⟨u35, hfr, hF⟩ := fr_wa hfr hF (by decide)
        obtain ⟨v36, hF⟩ := fr_rd hF
        obtain ⟨u37, hfr, hF⟩ := fr_wa hfr hF (by decide)
        obtain ⟨v38, hF⟩ := fr_rd hF
        obtain ⟨u39, hfr, hF⟩ := fr_wa hfr hF (by decide)
        obtain ⟨v40, hF⟩ := fr_nm hF
        exact hi2 v40 u39 hfr hF
  unfold fX11_keep at hF
  have hfr := Fr.rf wi_X11_keep wa_X11_keep wj_X11_keep u0
  exact hB2 N 0 u0 hfr hF
abbrev wi_X11_free : List Nat := []
abbrev wa_X11_free : List Nat := []
abbrev wj_X11_free : List Nat := []
set_option maxHeartbeats 4000000 in
set_option maxRecDepth 100000 in
theorem fr_X11_free {N : Nat}  {u0 σ0 : q_St} {r0 : Int32} (hF : fX11_free N u0 = some (r0, σ0)) : Fr wi_X11_free wa_X11_free wj_X11_free u0 σ0 := by
  unfold fX11_free at hF
  have hfr := Fr.rf wi_X11_free wa_X11_free wj_X11_free u0
  cases hF; exact hfr
abbrev wi_X11_lasts : List Nat := [9, 10]
abbrev wa_X11_lasts : List Nat := []
abbrev wj_X11_lasts : List Nat := []
set_option maxHeartbeats 4000000 in
set_option maxRecDepth 100000 in
theorem fr_X11_lasts {N : Nat}  {u0 σ0 : q_St} {r0 : Int32} (hF : fX11_lasts N u0 = some (r0, σ0)) : Fr wi_X11_lasts wa_X11_lasts wj_X11_lasts u0 σ0 := by
  have hB40 : ∀ (y0 : Int32) (u : q_St), Fr wi_X11_lasts wa_X11_lasts wj_X11_lasts u0 u → fX11_lasts_b40 N y0 u = some (r0, σ0) → Fr wi_X11_lasts wa_X11_lasts wj_X11_lasts u0 σ0 := by
    intro y0 u hfr hF
    unfold fX11_lasts_b40 at hF
    obtain ⟨u1, hfr, hF⟩ := fr_si hfr hF (by decide)
    cases hF; exact hfr
  unfold fX11_lasts at hF
  have hfr := Fr.rf wi_X11_lasts wa_X11_lasts wj_X11_lasts u0
  rcases fr_if hF with hF | hF
  · obtain ⟨u2, hfr, hF⟩ := fr_si hfr hF (by decide)
    obtain ⟨u3, hfr, hF⟩ := fr_si hfr hF (by decide)
    cases hF; exact hfr
  · rcases fr_if hF with hF | hF
    · exact hB40 ((q_i u0 10) - 1) u0 hfr hF
    · exact hB40 (q_i u0 10) u0 hfr hF
abbrev wi_X11_isLive : List Nat := []
abbrev wa_X11_isLive : List Nat := []
abbrev wj_X11_isLive : List Nat := []
set_option maxHeartbeats 4000000 in
set_option maxRecDepth 100000 in
theorem fr_X11_isLive {N : Nat} {o1 : Int32} {u0 σ0 : q_St} {r0 : Int32} (hF : fX11_isLive N o1 u0 = some (r0, σ0)) : Fr wi_X11_isLive wa_X11_isLive wj_X11_isLive u0 σ0 := by
  unfold fX11_isLive at hF
  have hfr := Fr.rf wi_X11_isLive wa_X11_isLive wj_X11_isLive u0
  have hF := (q_dv_some hF).2
  obtain ⟨v1, hF⟩ := fr_rd hF
  rcases fr_if hF with hF | hF
  · cases hF; exact hfr
  · rcases fr_if hF with hF | hF
    · cases hF; exact hfr
    · obtain ⟨v2, hF⟩ := fr_rd hF
      rcases fr_if hF with hF | hF
      · have hF := (q_dv_some hF).2
        obtain ⟨v3, hF⟩ := fr_rd hF
        rcases fr_if hF with hF | hF
        · cases hF; exact hfr
        · cases hF; exact hfr
      · cases hF; exact hfr
abbrev wi_X11_oldest : List Nat := []
abbrev wa_X11_oldest : List Nat := []
abbrev wj_X11_oldest : List Nat := []
set_option maxHeartbeats 4000000 in
set_option maxRecDepth 100000 in
theorem fr_X11_oldest {N : Nat}  {u0 σ0 : q_St} {r0 : Int32} (hF : fX11_oldest N u0 = some (r0, σ0)) : Fr wi_X11_oldest wa_X11_oldest wj_X11_oldest u0 σ0 := by
  have hB5 : ∀ (n : Nat) (x1 : Int32) (u : q_St), Fr wi_X11_oldest wa_X11_oldest wj_X11_oldest u0 u → q_lp (fX11_oldest_b5 N) (fun _ _ => none) n x1 u = some (r0, σ0) → Fr wi_X11_oldest wa_X11_oldest wj_X11_oldest u0 σ0 := by
    intro n
    induction n with
    | zero => intro x1 u hfr hF; exact absurd (show (none : Option (Int32 × q_St)) = some _ from hF) (fun h => nomatch h)
    | succ n hi5 =>
      intro x1 u hfr hF
      obtain ⟨ih5, hih⟩ : ∃ q, q = q_lp (fX11_oldest_b5 N) (fun _ _ => none) n := ⟨_, rfl⟩
      rw [← hih] at hi5
      have hF : fX11_oldest_b5 N (q_lp (fX11_oldest_b5 N) (fun _ _ => none) n) x1 u = some (r0, σ0) := hF
      rw [← hih] at hF
      clear hih
      unfold fX11_oldest_b5 at hF
      rcases fr_if hF with hF | hF
      · cases hF; exact hfr
      · obtain ⟨r2, u3, hc4, hF⟩ := q_bnd_some hF
        have hfr := hfr.app (fr_X11_isLive hc4) (by decide) (by decide) (by decide)
        rcases fr_if hF with hF | hF
        · obtain ⟨v5, hF⟩ := fr_nm hF
          exact hi5 v5 u3 hfr hF
        · cases hF; exact hfr
  unfold fX11_oldest at hF
  have hfr := Fr.rf wi_X11_oldest wa_X11_oldest wj_X11_oldest u0
  obtain ⟨v1, hF⟩ := fr_nm hF
  exact hB5 N v1 u0 hfr hF
abbrev wi_X11_live : List Nat := []
abbrev wa_X11_live : List Nat := []
abbrev wj_X11_live : List Nat := []
set_option maxHeartbeats 4000000 in
set_option maxRecDepth 100000 in
theorem fr_X11_live {N : Nat} {o1 : Int32} {u0 σ0 : q_St} {r0 : Int32} (hF : fX11_live N o1 u0 = some (r0, σ0)) : Fr wi_X11_live wa_X11_live wj_X11_live u0 σ0 := by
  have hB53 : ∀ (ih7 : Int32 → Int32 → Int32 → q_St → Option (Int32 × q_St)) (hi7 : ∀ (x1 : Int32) (x2 : Int32) (x3 : Int32) (u : q_St), Fr wi_X11_live wa_X11_live wj_X11_live u0 u → ih7 x1 x2 x3 u = some (r0, σ0) → Fr wi_X11_live wa_X11_live wj_X11_live u0 σ0), ∀ (x1 : Int32) (x3 : Int32) (y0 : Int32) (y1 : Int32) (u : q_St), Fr wi_X11_live wa_X11_live wj_X11_live u0 u → fX11_live_b53 N ih7 x1 x3 y0 y1 u = some (r0, σ0) → Fr wi_X11_live wa_X11_live wj_X11_live u0 σ0 := by
    intro ih7 hi7 x1 x3 y0 y1 u hfr hF
    unfold fX11_live_b53 at hF
    obtain ⟨v5, hF⟩ := fr_nm hF
    obtain ⟨v6, hF⟩ := fr_nm hF
    exact hi7 x1 v5 v6 u hfr hF
  have hB52 : ∀ (ih7 : Int32 → Int32 → Int32 → q_St → Option (Int32 × q_St)) (hi7 : ∀ (x1 : Int32) (x2 : Int32) (x3 : Int32) (u : q_St), Fr wi_X11_live wa_X11_live wj_X11_live u0 u → ih7 x1 x2 x3 u = some (r0, σ0) → Fr wi_X11_live wa_X11_live wj_X11_live u0 σ0), ∀ (x1 : Int32) (x3 : Int32) (y0 : Int32) (u : q_St), Fr wi_X11_live wa_X11_live wj_X11_live u0 u → fX11_live_b52 N ih7 x1 x3 y0 u = some (r0, σ0) → Fr wi_X11_live wa_X11_live wj_X11_live u0 σ0 := by
    intro ih7 hi7 x1 x3 y0 u hfr hF
    unfold fX11_live_b52 at hF
    exact hB53 ih7 hi7 x1 x3 0 y0 u hfr hF
  have hB48 : ∀ (ih7 : Int32 → Int32 → Int32 → q_St → Option (Int32 × q_St)) (hi7 : ∀ (x1 : Int32) (x2 : Int32) (x3 : Int32) (u : q_St), Fr wi_X11_live wa_X11_live wj_X11_live u0 u → ih7 x1 x2 x3 u = some (r0, σ0) → Fr wi_X11_live wa_X11_live wj_X11_live u0 σ0), ∀ (x1 : Int32) (x3 : Int32) (y0 : Int32) (u : q_St), Fr wi_X11_live wa_X11_live wj_X11_live u0 u → fX11_live_b48 N ih7 x1 x3 y0 u = some (r0, σ0) → Fr wi_X11_live wa_X11_live wj_X11_live u0 σ0 := by
    intro ih7 hi7 x1 x3 y0 u hfr hF
    unfold fX11_live_b48 at hF
    exact hB53 ih7 hi7 x1 x3 1 y0 u hfr hF
  have hB7 : ∀ (n : Nat) (x1 : Int32) (x2 : Int32) (x3 : Int32) (u : q_St), Fr wi_X11_live wa_X11_live wj_X11_live u0 u → q_lp (fX11_live_b7 N) (fun _ _ _ _ => none) n x1 x2 x3 u = some (r0, σ0) → Fr wi_X11_live wa_X11_live wj_X11_live u0 σ0 := by
    intro n
    induction n with
    | zero => intro x1 x2 x3 u hfr hF; exact absurd (show (none : Option (Int32 × q_St)) = some _ from hF) (fun h => nomatch h)
    | succ n hi7 =>
      intro x1 x2 x3 u hfr hF
      obtain ⟨ih7, hih⟩ : ∃ q, q = q_lp (fX11_live_b7 N) (fun _ _ _ _ => none) n := ⟨_, rfl⟩
      rw [← hih] at hi7
      have hF : fX11_live_b7 N (q_lp (fX11_live_b7 N) (fun _ _ _ _ => none) n) x1 x2 x3 u = some (r0, σ0) := hF
      rw [← hih] at hF
      clear hih
      unfold fX11_live_b7 at hF
      rcases fr_if hF with hF | hF
      · cases hF; exact hfr
      · obtain ⟨r2, u3, hc4, hF⟩ := q_bnd_some hF
        have hfr := hfr.app (fr_X11_isLive hc4) (by decide) (by decide) (by decide)
        rcases fr_if hF with hF | hF
        · exact hB52 ih7 hi7 x1 x3 x2 u3 hfr hF
        · rcases fr_if hF with hF | hF
          · exact hB48 ih7 hi7 x1 x3 x2 u3 hfr hF
          · have hF := (q_dv_some hF).2
            obtain ⟨v7, hF⟩ := fr_rd hF
            have hF := (q_dv_some hF).2
            rcases fr_if hF with hF | hF
            · exact hB48 ih7 hi7 x1 x3 x2 u3 hfr hF
            · exact hB52 ih7 hi7 x1 x3 x2 u3 hfr hF
  unfold fX11_live at hF
  have hfr := Fr.rf wi_X11_live wa_X11_live wj_X11_live u0
  obtain ⟨v1, hF⟩ := fr_nm hF
  exact hB7 N o1 0 v1 u0 hfr hF
abbrev wi_X11_fullest : List Nat := []
abbrev wa_X11_fullest : List Nat := []
abbrev wj_X11_fullest : List Nat := []
set_option maxHeartbeats 4000000 in
set_option maxRecDepth 100000 in
theorem fr_X11_fullest {N : Nat}  {u0 σ0 : q_St} {r0 : Int32} (hF : fX11_fullest N u0 = some (r0, σ0)) : Fr wi_X11_fullest wa_X11_fullest wj_X11_fullest u0 σ0 := by
  have hB45 : ∀ (ih6 : Int32 → Int32 → Int32 → q_St → Option (Int32 × q_St)) (hi6 : ∀ (x1 : Int32) (x2 : Int32) (x3 : Int32) (u : q_St), Fr wi_X11_fullest wa_X11_fullest wj_X11_fullest u0 u → ih6 x1 x2 x3 u = some (r0, σ0) → Fr wi_X11_fullest wa_X11_fullest wj_X11_fullest u0 σ0), ∀ (x1 : Int32) (x3 : Int32) (y0 : Int32) (u : q_St), Fr wi_X11_fullest wa_X11_fullest wj_X11_fullest u0 u → fX11_fullest_b45 N ih6 x1 x3 y0 u = some (r0, σ0) → Fr wi_X11_fullest wa_X11_fullest wj_X11_fullest u0 σ0 := by
    intro ih6 hi6 x1 x3 y0 u hfr hF
    unfold fX11_fullest_b45 at hF
    obtain ⟨v4, hF⟩ := fr_nm hF
    exact hi6 x1 y0 v4 u hfr hF
  have hB32 : ∀ (ih6 : Int32 → Int32 → Int32 → q_St → Option (Int32 × q_St)) (hi6 : ∀ (x1 : Int32) (x2 : Int32) (x3 : Int32) (u : q_St), Fr wi_X11_fullest wa_X11_fullest wj_X11_fullest u0 u → ih6 x1 x2 x3 u = some (r0, σ0) → Fr wi_X11_fullest wa_X11_fullest wj_X11_fullest u0 σ0), ∀ (x2 : Int32) (x3 : Int32) (x4 : Int32) (y0 : Int32) (u : q_St), Fr wi_X11_fullest wa_X11_fullest wj_X11_fullest u0 u → fX11_fullest_b32 N ih6 x2 x3 x4 y0 u = some (r0, σ0) → Fr wi_X11_fullest wa_X11_fullest wj_X11_fullest u0 σ0 := by
    intro ih6 hi6 x2 x3 x4 y0 u hfr hF
    unfold fX11_fullest_b32 at hF
    rcases fr_if hF with hF | hF
    · exact hB45 ih6 hi6 y0 x3 x2 u hfr hF
    · exact hB45 ih6 hi6 y0 x3 x4 u hfr hF
  have hB6 : ∀ (n : Nat) (x1 : Int32) (x2 : Int32) (x3 : Int32) (u : q_St), Fr wi_X11_fullest wa_X11_fullest wj_X11_fullest u0 u → q_lp (fX11_fullest_b6 N) (fun _ _ _ _ => none) n x1 x2 x3 u = some (r0, σ0) → Fr wi_X11_fullest wa_X11_fullest wj_X11_fullest u0 σ0 := by
    intro n
    induction n with
    | zero => intro x1 x2 x3 u hfr hF; exact absurd (show (none : Option (Int32 × q_St)) = some _ from hF) (fun h => nomatch h)
    | succ n hi6 =>
      intro x1 x2 x3 u hfr hF
      obtain ⟨ih6, hih⟩ : ∃ q, q = q_lp (fX11_fullest_b6 N) (fun _ _ _ _ => none) n := ⟨_, rfl⟩
      rw [← hih] at hi6
      have hF : fX11_fullest_b6 N (q_lp (fX11_fullest_b6 N) (fun _ _ _ _ => none) n) x1 x2 x3 u = some (r0, σ0) := hF
      rw [← hih] at hF
      clear hih
      unfold fX11_fullest_b6 at hF
      rcases fr_if hF with hF | hF
      · cases hF; exact hfr
      · obtain ⟨r1, u2, hc3, hF⟩ := q_bnd_some hF
        have hfr := hfr.app (fr_X11_live hc3) (by decide) (by decide) (by decide)
        rcases fr_if hF with hF | hF
        · exact hB32 ih6 hi6 x2 x3 r1 x1 u2 hfr hF
        · exact hB32 ih6 hi6 x2 x3 r1 x3 u2 hfr hF
  unfold fX11_fullest at hF
  have hfr := Fr.rf wi_X11_fullest wa_X11_fullest wj_X11_fullest u0
  exact hB6 N (-1) 0 0 u0 hfr hF
abbrev wi_X11_nextKind : List Nat := []
abbrev wa_X11_nextKind : List Nat := []
abbrev wj_X11_nextKind : List Nat := []
set_option maxHeartbeats 4000000 in
set_option maxRecDepth 100000 in
theorem fr_X11_nextKind {N : Nat}  {u0 σ0 : q_St} {r0 : Int32} (hF : fX11_nextKind N u0 = some (r0, σ0)) : Fr wi_X11_nextKind wa_X11_nextKind wj_X11_nextKind u0 σ0 := by
  unfold fX11_nextKind at hF
  have hfr := Fr.rf wi_X11_nextKind wa_X11_nextKind wj_X11_nextKind u0
  rcases fr_if hF with hF | hF
  · obtain ⟨r1, u2, hc3, hF⟩ := q_bnd_some hF
    have hfr := hfr.app (fr_X11_oldest hc3) (by decide) (by decide) (by decide)
    rcases fr_if hF with hF | hF
    · obtain ⟨r4, u5, hc6, hF⟩ := q_bnd_some hF
      have hfr := hfr.app (fr_X11_fullest hc6) (by decide) (by decide) (by decide)
      rcases fr_if hF with hF | hF
      · cases hF; exact hfr
      · cases hF; exact hfr
    · cases hF; exact hfr
  · cases hF; exact hfr
abbrev wi_X11_record : List Nat := [9, 10, 14]
abbrev wa_X11_record : List Nat := []
abbrev wj_X11_record : List Nat := []
set_option maxHeartbeats 4000000 in
set_option maxRecDepth 100000 in
theorem fr_X11_record {N : Nat}  {u0 σ0 : q_St} {r0 : Int32} (hF : fX11_record N u0 = some (r0, σ0)) : Fr wi_X11_record wa_X11_record wj_X11_record u0 σ0 := by
  unfold fX11_record at hF
  have hfr := Fr.rf wi_X11_record wa_X11_record wj_X11_record u0
  obtain ⟨r1, u2, hc3, hF⟩ := q_bnd_some hF
  have hfr := hfr.app (fr_X11_lasts hc3) (by decide) (by decide) (by decide)
  rcases fr_if hF with hF | hF
  · cases hF; exact hfr
  · obtain ⟨u4, hfr, hF⟩ := fr_si hfr hF (by decide)
    cases hF; exact hfr
abbrev wi_X11_nextTrack : List Nat := [21, 22]
abbrev wa_X11_nextTrack : List Nat := []
abbrev wj_X11_nextTrack : List Nat := []
set_option maxHeartbeats 4000000 in
set_option maxRecDepth 100000 in
theorem fr_X11_nextTrack {N : Nat} {o1 : Int32} {u0 σ0 : q_St} {r0 : Unit} (hF : fX11_nextTrack N o1 u0 = some (r0, σ0)) : Fr wi_X11_nextTrack wa_X11_nextTrack wj_X11_nextTrack u0 σ0 := by
  unfold fX11_nextTrack at hF
  have hfr := Fr.rf wi_X11_nextTrack wa_X11_nextTrack wj_X11_nextTrack u0
  obtain ⟨u1, hfr, hF⟩ := fr_si hfr hF (by decide)
  rcases fr_if hF with hF | hF
  · obtain ⟨u2, hfr, hF⟩ := fr_si hfr hF (by decide)
    obtain ⟨u3, hfr, hF⟩ := fr_si hfr hF (by decide)
    cases hF; exact hfr
  · cases hF; exact hfr
abbrev wi_X11_writeScratch : List Nat := [9, 10, 13]
abbrev wa_X11_writeScratch : List Nat := [1]
abbrev wj_X11_writeScratch : List Nat := []
set_option maxHeartbeats 4000000 in
set_option maxRecDepth 100000 in
theorem fr_X11_writeScratch {N : Nat} {o1 : Int32} {o2 : Int32} {u0 σ0 : q_St} {r0 : Int32} (hF : fX11_writeScratch N o1 o2 u0 = some (r0, σ0)) : Fr wi_X11_writeScratch wa_X11_writeScratch wj_X11_writeScratch u0 σ0 := by
  have hB86 : ∀ (x3 : Int32) (y0 : Int32) (y1 : Int32) (u : q_St), Fr wi_X11_writeScratch wa_X11_writeScratch wj_X11_writeScratch u0 u → fX11_writeScratch_b86 N x3 y0 y1 u = some (r0, σ0) → Fr wi_X11_writeScratch wa_X11_writeScratch wj_X11_writeScratch u0 σ0 := by
    intro x3 y0 y1 u hfr hF
    unfold fX11_writeScratch_b86 at hF
    obtain ⟨u6, hfr, hF⟩ := fr_si hfr hF (by decide)
    have hF := (q_rz_some hF).2
    cases hF; exact hfr
  have hB72 : ∀ (x3 : Int32) (u : q_St), Fr wi_X11_writeScratch wa_X11_writeScratch wj_X11_writeScratch u0 u → fX11_writeScratch_b72 N x3 u = some (r0, σ0) → Fr wi_X11_writeScratch wa_X11_writeScratch wj_X11_writeScratch u0 σ0 := by
    intro x3 u hfr hF
    unfold fX11_writeScratch_b72 at hF
    rcases fr_if hF with hF | hF
    · exact hB86 x3 0 (q_i u 13) u hfr hF
    · exact hB86 x3 1 (q_i u 13) u hfr hF
  have hB33 : ∀ (n : Nat) (x1 : Int32) (x3 : Int32) (x4 : Int32) (u : q_St), Fr wi_X11_writeScratch wa_X11_writeScratch wj_X11_writeScratch u0 u → q_lp (fX11_writeScratch_b33 N) (fun _ _ _ _ => none) n x1 x3 x4 u = some (r0, σ0) → Fr wi_X11_writeScratch wa_X11_writeScratch wj_X11_writeScratch u0 σ0 := by
    intro n
    induction n with
    | zero => intro x1 x3 x4 u hfr hF; exact absurd (show (none : Option (Int32 × q_St)) = some _ from hF) (fun h => nomatch h)
    | succ n hi33 =>
      intro x1 x3 x4 u hfr hF
      obtain ⟨ih33, hih⟩ : ∃ q, q = q_lp (fX11_writeScratch_b33 N) (fun _ _ _ _ => none) n := ⟨_, rfl⟩
      rw [← hih] at hi33
      have hF : fX11_writeScratch_b33 N (q_lp (fX11_writeScratch_b33 N) (fun _ _ _ _ => none) n) x1 x3 x4 u = some (r0, σ0) := hF
      rw [← hih] at hF
      clear hih
      unfold fX11_writeScratch_b33 at hF
      rcases fr_if hF with hF | hF
      · exact hB72 x3 u hfr hF
      · rcases fr_if hF with hF | hF
        · exact hB72 x3 u hfr hF
        · obtain ⟨u7, hfr, hF⟩ := fr_wa hfr hF (by decide)
          obtain ⟨v8, hF⟩ := fr_nm hF
          exact hi33 x1 x3 v8 u7 hfr hF
  have hB24 : ∀ (x1 : Int32) (x3 : Int32) (y0 : Int32) (y1 : Int32) (u : q_St), Fr wi_X11_writeScratch wa_X11_writeScratch wj_X11_writeScratch u0 u → fX11_writeScratch_b24 N x1 x3 y0 y1 u = some (r0, σ0) → Fr wi_X11_writeScratch wa_X11_writeScratch wj_X11_writeScratch u0 σ0 := by
    intro x1 x3 y0 y1 u hfr hF
    unfold fX11_writeScratch_b24 at hF
    obtain ⟨u4, hfr, hF⟩ := fr_wa hfr hF (by decide)
    obtain ⟨v5, hF⟩ := fr_nm hF
    exact hB33 N x1 x3 v5 u4 hfr hF
  unfold fX11_writeScratch at hF
  have hfr := Fr.rf wi_X11_writeScratch wa_X11_writeScratch wj_X11_writeScratch u0
  obtain ⟨r1, u2, hc3, hF⟩ := q_bnd_some hF
  have hfr := hfr.app (fr_X11_lasts hc3) (by decide) (by decide) (by decide)
  rcases fr_if hF with hF | hF
  · exact hB24 o1 r1 1 ((8 * o1) + o2) u2 hfr hF
  · exact hB24 o1 r1 0 ((8 * o1) + o2) u2 hfr hF
abbrev wi_X11_writeBand : List Nat := [9, 10, 12]
abbrev wa_X11_writeBand : List Nat := [0]
abbrev wj_X11_writeBand : List Nat := []
set_option maxHeartbeats 4000000 in
set_option maxRecDepth 100000 in
theorem fr_X11_writeBand {N : Nat} {o1 : Int32} {o2 : Int32} {o3 : Int32} {u0 σ0 : q_St} {r0 : Int32} (hF : fX11_writeBand N o1 o2 o3 u0 = some (r0, σ0)) : Fr wi_X11_writeBand wa_X11_writeBand wj_X11_writeBand u0 σ0 := by
  have hB118 : ∀ (x4 : Int32) (y0 : Int32) (y1 : Int32) (u : q_St), Fr wi_X11_writeBand wa_X11_writeBand wj_X11_writeBand u0 u → fX11_writeBand_b118 N x4 y0 y1 u = some (r0, σ0) → Fr wi_X11_writeBand wa_X11_writeBand wj_X11_writeBand u0 σ0 := by
    intro x4 y0 y1 u hfr hF
    unfold fX11_writeBand_b118 at hF
    obtain ⟨u7, hfr, hF⟩ := fr_si hfr hF (by decide)
    have hF := (q_rz_some hF).2
    cases hF; exact hfr
  have hB103 : ∀ (x4 : Int32) (u : q_St), Fr wi_X11_writeBand wa_X11_writeBand wj_X11_writeBand u0 u → fX11_writeBand_b103 N x4 u = some (r0, σ0) → Fr wi_X11_writeBand wa_X11_writeBand wj_X11_writeBand u0 σ0 := by
    intro x4 u hfr hF
    unfold fX11_writeBand_b103 at hF
    rcases fr_if hF with hF | hF
    · exact hB118 x4 0 (q_i u 12) u hfr hF
    · exact hB118 x4 1 (q_i u 12) u hfr hF
  have hB53 : ∀ (n : Nat) (x1 : Int32) (x2 : Int32) (x4 : Int32) (x6 : Int32) (u : q_St), Fr wi_X11_writeBand wa_X11_writeBand wj_X11_writeBand u0 u → q_lp (fX11_writeBand_b53 N) (fun _ _ _ _ _ => none) n x1 x2 x4 x6 u = some (r0, σ0) → Fr wi_X11_writeBand wa_X11_writeBand wj_X11_writeBand u0 σ0 := by
    intro n
    induction n with
    | zero => intro x1 x2 x4 x6 u hfr hF; exact absurd (show (none : Option (Int32 × q_St)) = some _ from hF) (fun h => nomatch h)
    | succ n hi53 =>
      intro x1 x2 x4 x6 u hfr hF
      obtain ⟨ih53, hih⟩ : ∃ q, q = q_lp (fX11_writeBand_b53 N) (fun _ _ _ _ _ => none) n := ⟨_, rfl⟩
      rw [← hih] at hi53
      have hF : fX11_writeBand_b53 N (q_lp (fX11_writeBand_b53 N) (fun _ _ _ _ _ => none) n) x1 x2 x4 x6 u = some (r0, σ0) := hF
      rw [← hih] at hF
      clear hih
      unfold fX11_writeBand_b53 at hF
      rcases fr_if hF with hF | hF
      · exact hB103 x4 u hfr hF
      · rcases fr_if hF with hF | hF
        · exact hB103 x4 u hfr hF
        · obtain ⟨u8, hfr, hF⟩ := fr_wa hfr hF (by decide)
          obtain ⟨v9, hF⟩ := fr_nm hF
          exact hi53 x1 x2 x4 v9 u8 hfr hF
  have hB37 : ∀ (x1 : Int32) (x2 : Int32) (x4 : Int32) (y0 : Int32) (y1 : Int32) (u : q_St), Fr wi_X11_writeBand wa_X11_writeBand wj_X11_writeBand u0 u → fX11_writeBand_b37 N x1 x2 x4 y0 y1 u = some (r0, σ0) → Fr wi_X11_writeBand wa_X11_writeBand wj_X11_writeBand u0 σ0 := by
    intro x1 x2 x4 y0 y1 u hfr hF
    unfold fX11_writeBand_b37 at hF
    obtain ⟨u5, hfr, hF⟩ := fr_wa hfr hF (by decide)
    obtain ⟨v6, hF⟩ := fr_nm hF
    exact hB53 N x1 x2 x4 v6 u5 hfr hF
  unfold fX11_writeBand at hF
  have hfr := Fr.rf wi_X11_writeBand wa_X11_writeBand wj_X11_writeBand u0
  obtain ⟨r1, u2, hc3, hF⟩ := q_bnd_some hF
  have hfr := hfr.app (fr_X11_lasts hc3) (by decide) (by decide) (by decide)
  obtain ⟨v4, hF⟩ := fr_nm hF
  rcases fr_if hF with hF | hF
  · exact hB37 o1 o2 r1 1 v4 u2 hfr hF
  · exact hB37 o1 o2 r1 0 v4 u2 hfr hF
abbrev wi_X11_done : List Nat := [9, 10, 14, 15, 18, 19, 23]
abbrev wa_X11_done : List Nat := [4]
abbrev wj_X11_done : List Nat := []
set_option maxHeartbeats 4000000 in
set_option maxRecDepth 100000 in
theorem fr_X11_done {N : Nat}  {u0 σ0 : q_St} {r0 : Int32} (hF : fX11_done N u0 = some (r0, σ0)) : Fr wi_X11_done wa_X11_done wj_X11_done u0 σ0 := by
  unfold fX11_done at hF
  have hfr := Fr.rf wi_X11_done wa_X11_done wj_X11_done u0
  obtain ⟨r1, u2, hc3, hF⟩ := q_bnd_some hF
  have hfr := hfr.app (fr_X11_record hc3) (by decide) (by decide) (by decide)
  rcases fr_if hF with hF | hF
  · cases hF; exact hfr
  · obtain ⟨u4, hfr, hF⟩ := fr_wa hfr hF (by decide)
    obtain ⟨u5, hfr, hF⟩ := fr_si hfr hF (by decide)
    obtain ⟨u6, hfr, hF⟩ := fr_si hfr hF (by decide)
    obtain ⟨r7, u8, hc9, hF⟩ := q_bnd_some hF
    have hfr := hfr.app (fr_X11_oldest hc9) (by decide) (by decide) (by decide)
    obtain ⟨u10, hfr, hF⟩ := fr_si hfr hF (by decide)
    obtain ⟨u11, hfr, hF⟩ := fr_si hfr hF (by decide)
    cases hF; exact hfr
abbrev wi_X11_step : List Nat := [9, 10, 12, 13, 14, 15, 18, 19, 20, 21, 22, 23]
abbrev wa_X11_step : List Nat := [0, 1, 4]
abbrev wj_X11_step : List Nat := []
set_option maxHeartbeats 4000000 in
set_option maxRecDepth 100000 in
theorem fr_X11_step {N : Nat}  {u0 σ0 : q_St} {r0 : Int32} (hF : fX11_step N u0 = some (r0, σ0)) : Fr wi_X11_step wa_X11_step wj_X11_step u0 σ0 := by
  have hB248 : ∀ (x1 : Int32) (x2 : Int32) (u : q_St), Fr wi_X11_step wa_X11_step wj_X11_step u0 u → fX11_step_b248 N x1 x2 u = some (r0, σ0) → Fr wi_X11_step wa_X11_step wj_X11_step u0 σ0 := by
    intro x1 x2 u hfr hF
    unfold fX11_step_b248 at hF
    rcases fr_if hF with hF | hF
    · cases hF; exact hfr
    · cases hF; exact hfr
  have hB71 : ∀ (x1 : Int32) (x2 : Int32) (y0 : Int32) (u : q_St), Fr wi_X11_step wa_X11_step wj_X11_step u0 u → fX11_step_b71 N x1 x2 y0 u = some (r0, σ0) → Fr wi_X11_step wa_X11_step wj_X11_step u0 σ0 := by
    intro x1 x2 y0 u hfr hF
    unfold fX11_step_b71 at hF
    obtain ⟨u10, hfr, hF⟩ := fr_si hfr hF (by decide)
    exact hB248 x1 x2 u10 hfr hF
  have hB153 : ∀ (x1 : Int32) (x2 : Int32) (u : q_St), Fr wi_X11_step wa_X11_step wj_X11_step u0 u → fX11_step_b153 N x1 x2 u = some (r0, σ0) → Fr wi_X11_step wa_X11_step wj_X11_step u0 σ0 := by
    intro x1 x2 u hfr hF
    unfold fX11_step_b153 at hF
    rcases fr_if hF with hF | hF
    · exact hB248 x1 x2 u hfr hF
    · obtain ⟨r22, u23, hc24, hF⟩ := q_bnd_some hF
      have hfr := hfr.app (fr_X11_nextTrack hc24) (by decide) (by decide) (by decide)
      exact hB248 x1 x2 u23 hfr hF
  have hB127 : ∀ (n : Nat) (x1 : Int32) (x2 : Int32) (x3 : Int32) (u : q_St), Fr wi_X11_step wa_X11_step wj_X11_step u0 u → q_lp (fX11_step_b127 N) (fun _ _ _ _ => none) n x1 x2 x3 u = some (r0, σ0) → Fr wi_X11_step wa_X11_step wj_X11_step u0 σ0 := by
    intro n
    induction n with
    | zero => intro x1 x2 x3 u hfr hF; exact absurd (show (none : Option (Int32 × q_St)) = some _ from hF) (fun h => nomatch h)
    | succ n hi127 =>
      intro x1 x2 x3 u hfr hF
      obtain ⟨ih127, hih⟩ : ∃ q, q = q_lp (fX11_step_b127 N) (fun _ _ _ _ => none) n := ⟨_, rfl⟩
      rw [← hih] at hi127
      have hF : fX11_step_b127 N (q_lp (fX11_step_b127 N) (fun _ _ _ _ => none) n) x1 x2 x3 u = some (r0, σ0) := hF
      rw [← hih] at hF
      clear hih
      unfold fX11_step_b127 at hF
      rcases fr_if hF with hF | hF
      · exact hB153 x1 x2 u hfr hF
      · rcases fr_if hF with hF | hF
        · exact hB153 x1 x2 u hfr hF
        · obtain ⟨r25, u26, hc27, hF⟩ := q_bnd_some hF
          have hfr := hfr.app (fr_X11_writeScratch hc27) (by decide) (by decide) (by decide)
          obtain ⟨v28, hF⟩ := fr_nm hF
          exact hi127 x1 r25 v28 u26 hfr hF
  have hB227 : ∀ (x1 : Int32) (x2 : Int32) (u : q_St), Fr wi_X11_step wa_X11_step wj_X11_step u0 u → fX11_step_b227 N x1 x2 u = some (r0, σ0) → Fr wi_X11_step wa_X11_step wj_X11_step u0 σ0 := by
    intro x1 x2 u hfr hF
    unfold fX11_step_b227 at hF
    rcases fr_if hF with hF | hF
    · exact hB248 x1 x2 u hfr hF
    · obtain ⟨r35, u36, hc37, hF⟩ := q_bnd_some hF
      have hfr := hfr.app (fr_X11_nextTrack hc37) (by decide) (by decide) (by decide)
      exact hB248 x1 x2 u36 hfr hF
  have hB197 : ∀ (n : Nat) (x1 : Int32) (x2 : Int32) (x3 : Int32) (u : q_St), Fr wi_X11_step wa_X11_step wj_X11_step u0 u → q_lp (fX11_step_b197 N) (fun _ _ _ _ => none) n x1 x2 x3 u = some (r0, σ0) → Fr wi_X11_step wa_X11_step wj_X11_step u0 σ0 := by
    intro n
    induction n with
    | zero => intro x1 x2 x3 u hfr hF; exact absurd (show (none : Option (Int32 × q_St)) = some _ from hF) (fun h => nomatch h)
    | succ n hi197 =>
      intro x1 x2 x3 u hfr hF
      obtain ⟨ih197, hih⟩ : ∃ q, q = q_lp (fX11_step_b197 N) (fun _ _ _ _ => none) n := ⟨_, rfl⟩
      rw [← hih] at hi197
      have hF : fX11_step_b197 N (q_lp (fX11_step_b197 N) (fun _ _ _ _ => none) n) x1 x2 x3 u = some (r0, σ0) := hF
      rw [← hih] at hF
      clear hih
      unfold fX11_step_b197 at hF
      rcases fr_if hF with hF | hF
      · exact hB227 x1 x2 u hfr hF
      · rcases fr_if hF with hF | hF
        · exact hB227 x1 x2 u hfr hF
        · obtain ⟨r38, u39, hc40, hF⟩ := q_bnd_some hF
          have hfr := hfr.app (fr_X11_writeBand hc40) (by decide) (by decide) (by decide)
          obtain ⟨v41, hF⟩ := fr_nm hF
          exact hi197 x1 r38 v41 u39 hfr hF
  unfold fX11_step at hF
  have hfr := Fr.rf wi_X11_step wa_X11_step wj_X11_step u0
  obtain ⟨r1, u2, hc3, hF⟩ := q_bnd_some hF
  have hfr := hfr.app (fr_X11_nextKind hc3) (by decide) (by decide) (by decide)
  rcases fr_if hF with hF | hF
  · obtain ⟨r4, u5, hc6, hF⟩ := q_bnd_some hF
    have hfr := hfr.app (fr_X11_oldest hc6) (by decide) (by decide) (by decide)
    obtain ⟨r7, u8, hc9, hF⟩ := q_bnd_some hF
    have hfr := hfr.app (fr_X11_record hc9) (by decide) (by decide) (by decide)
    rcases fr_if hF with hF | hF
    · exact hB71 r1 r7 (q_i u8 18) u8 hfr hF
    · exact hB71 r1 r7 r4 u8 hfr hF
  rcases fr_if hF with hF | hF
  · obtain ⟨r11, u12, hc13, hF⟩ := q_bnd_some hF
    have hfr := hfr.app (fr_X11_fullest hc13) (by decide) (by decide) (by decide)
    obtain ⟨r14, u15, hc16, hF⟩ := q_bnd_some hF
    have hfr := hfr.app (fr_X11_record hc16) (by decide) (by decide) (by decide)
    rcases fr_if hF with hF | hF
    · exact hB248 r1 r14 u15 hfr hF
    · obtain ⟨u17, hfr, hF⟩ := fr_si hfr hF (by decide)
      obtain ⟨u18, hfr, hF⟩ := fr_si hfr hF (by decide)
      obtain ⟨u19, hfr, hF⟩ := fr_si hfr hF (by decide)
      obtain ⟨u20, hfr, hF⟩ := fr_si hfr hF (by decide)
      obtain ⟨u21, hfr, hF⟩ := fr_si hfr hF (by decide)
      exact hB248 r1 r14 u21 hfr hF
  rcases fr_if hF with hF | hF
  · exact hB127 N r1 1 0 u2 hfr hF
  rcases fr_if hF with hF | hF
  · obtain ⟨r29, u30, hc31, hF⟩ := q_bnd_some hF
    have hfr := hfr.app (fr_X11_record hc31) (by decide) (by decide) (by decide)
    rcases fr_if hF with hF | hF
    · exact hB248 r1 r29 u30 hfr hF
    · obtain ⟨u32, hfr, hF⟩ := fr_si hfr hF (by decide)
      obtain ⟨u33, hfr, hF⟩ := fr_si hfr hF (by decide)
      obtain ⟨u34, hfr, hF⟩ := fr_si hfr hF (by decide)
      exact hB248 r1 r29 u34 hfr hF
  rcases fr_if hF with hF | hF
  · exact hB197 N r1 1 0 u2 hfr hF
  rcases fr_if hF with hF | hF
  · obtain ⟨r42, u43, hc44, hF⟩ := q_bnd_some hF
    have hfr := hfr.app (fr_X11_done hc44) (by decide) (by decide) (by decide)
    exact hB248 r1 r42 u43 hfr hF
  exact hB248 r1 1 u2 hfr hF
abbrev wi_X11_write : List Nat := [9, 10, 11, 12, 13, 14, 15, 17, 18, 19, 20, 21, 22, 23]
abbrev wa_X11_write : List Nat := [0, 1, 2, 3, 4]
abbrev wj_X11_write : List Nat := []
set_option maxHeartbeats 4000000 in
set_option maxRecDepth 100000 in
theorem fr_X11_write {N : Nat} {o1 : Int32} {u0 σ0 : q_St} {r0 : Int32} (hF : fX11_write N o1 u0 = some (r0, σ0)) : Fr wi_X11_write wa_X11_write wj_X11_write u0 σ0 := by
  have hB24 : ∀ (n : Nat) (x1 : Int32) (u : q_St), Fr wi_X11_write wa_X11_write wj_X11_write u0 u → q_lp (fX11_write_b24 N) (fun _ _ => none) n x1 u = some (r0, σ0) → Fr wi_X11_write wa_X11_write wj_X11_write u0 σ0 := by
    intro n
    induction n with
    | zero => intro x1 u hfr hF; exact absurd (show (none : Option (Int32 × q_St)) = some _ from hF) (fun h => nomatch h)
    | succ n hi24 =>
      intro x1 u hfr hF
      obtain ⟨ih24, hih⟩ : ∃ q, q = q_lp (fX11_write_b24 N) (fun _ _ => none) n := ⟨_, rfl⟩
      rw [← hih] at hi24
      have hF : fX11_write_b24 N (q_lp (fX11_write_b24 N) (fun _ _ => none) n) x1 u = some (r0, σ0) := hF
      rw [← hih] at hF
      clear hih
      unfold fX11_write_b24 at hF
      obtain ⟨r4, u5, hc6, hF⟩ := q_bnd_some hF
      have hfr := hfr.app (fr_X11_free hc6) (by decide) (by decide) (by decide)
      rcases fr_if hF with hF | hF
      · obtain ⟨r14, u15, hc16, hF⟩ := q_bnd_some hF
        have hfr := hfr.app (fr_X11_step hc16) (by decide) (by decide) (by decide)
        rcases fr_if hF with hF | hF
        · cases hF; exact hfr
        · exact hi24 x1 u15 hfr hF
      · obtain ⟨r7, u8, hc9, hF⟩ := q_bnd_some hF
        have hfr := hfr.app (fr_X11_lasts hc9) (by decide) (by decide) (by decide)
        rcases fr_if hF with hF | hF
        · cases hF; exact hfr
        · obtain ⟨u10, hfr, hF⟩ := fr_si hfr hF (by decide)
          have hF := (q_dv_some hF).2
          obtain ⟨u11, hfr, hF⟩ := fr_wa hfr hF (by decide)
          obtain ⟨u12, hfr, hF⟩ := fr_wa hfr hF (by decide)
          obtain ⟨u13, hfr, hF⟩ := fr_si hfr hF (by decide)
          cases hF; exact hfr
  unfold fX11_write at hF
  have hfr := Fr.rf wi_X11_write wa_X11_write wj_X11_write u0
  obtain ⟨r1, u2, hc3, hF⟩ := q_bnd_some hF
  have hfr := hfr.app (fr_X11_free hc3) (by decide) (by decide) (by decide)
  rcases fr_if hF with hF | hF
  · exact hB24 N o1 u2 hfr hF
  · obtain ⟨r17, u18, hc19, hF⟩ := q_bnd_some hF
    have hfr := hfr.app (fr_X11_step hc19) (by decide) (by decide) (by decide)
    rcases fr_if hF with hF | hF
    · cases hF; exact hfr
    · exact hB24 N o1 u18 hfr hF
abbrev wi_X11_bringHome : List Nat := [9, 10, 11, 12, 13, 14, 15, 17, 18, 19, 20, 21, 22, 23]
abbrev wa_X11_bringHome : List Nat := [0, 1, 2, 3, 4]
abbrev wj_X11_bringHome : List Nat := []
set_option maxHeartbeats 4000000 in
set_option maxRecDepth 100000 in
theorem fr_X11_bringHome {N : Nat}  {u0 σ0 : q_St} {r0 : Int32} (hF : fX11_bringHome N u0 = some (r0, σ0)) : Fr wi_X11_bringHome wa_X11_bringHome wj_X11_bringHome u0 σ0 := by
  have hB29 : ∀ (ih2 : Int32 → q_St → Option (Int32 × q_St)) (hi2 : ∀ (x1 : Int32) (u : q_St), Fr wi_X11_bringHome wa_X11_bringHome wj_X11_bringHome u0 u → ih2 x1 u = some (r0, σ0) → Fr wi_X11_bringHome wa_X11_bringHome wj_X11_bringHome u0 σ0), ∀ (x1 : Int32) (u : q_St), Fr wi_X11_bringHome wa_X11_bringHome wj_X11_bringHome u0 u → fX11_bringHome_b29 N ih2 x1 u = some (r0, σ0) → Fr wi_X11_bringHome wa_X11_bringHome wj_X11_bringHome u0 σ0 := by
    intro ih2 hi2 x1 u hfr hF
    unfold fX11_bringHome_b29 at hF
    obtain ⟨v2, hF⟩ := fr_nm hF
    exact hi2 v2 u hfr hF
  have hB2 : ∀ (n : Nat) (x1 : Int32) (u : q_St), Fr wi_X11_bringHome wa_X11_bringHome wj_X11_bringHome u0 u → q_lp (fX11_bringHome_b2 N) (fun _ _ => none) n x1 u = some (r0, σ0) → Fr wi_X11_bringHome wa_X11_bringHome wj_X11_bringHome u0 σ0 := by
    intro n
    induction n with
    | zero => intro x1 u hfr hF; exact absurd (show (none : Option (Int32 × q_St)) = some _ from hF) (fun h => nomatch h)
    | succ n hi2 =>
      intro x1 u hfr hF
      obtain ⟨ih2, hih⟩ : ∃ q, q = q_lp (fX11_bringHome_b2 N) (fun _ _ => none) n := ⟨_, rfl⟩
      rw [← hih] at hi2
      have hF : fX11_bringHome_b2 N (q_lp (fX11_bringHome_b2 N) (fun _ _ => none) n) x1 u = some (r0, σ0) := hF
      rw [← hih] at hF
      clear hih
      unfold fX11_bringHome_b2 at hF
      rcases fr_if hF with hF | hF
      · cases hF; exact hfr
      · obtain ⟨v1, hF⟩ := fr_rd hF
        rcases fr_if hF with hF | hF
        · exact hB29 ih2 hi2 x1 u hfr hF
        · obtain ⟨r3, u4, hc5, hF⟩ := q_bnd_some hF
          have hfr := hfr.app (fr_X11_write hc5) (by decide) (by decide) (by decide)
          rcases fr_if hF with hF | hF
          · cases hF; exact hfr
          · exact hB29 ih2 hi2 x1 u4 hfr hF
  unfold fX11_bringHome at hF
  have hfr := Fr.rf wi_X11_bringHome wa_X11_bringHome wj_X11_bringHome u0
  exact hB2 N 0 u0 hfr hF
abbrev wi_X11_commit : List Nat := [9, 10, 11, 12, 13, 14, 15, 16, 17, 18, 19, 20, 21, 22, 23, 25, 26]
abbrev wa_X11_commit : List Nat := [0, 1, 2, 3, 4, 19, 20, 21, 22, 23, 24, 25, 26, 27, 28, 29, 30, 31, 32, 33, 34]
abbrev wj_X11_commit : List Nat := [1]
set_option maxHeartbeats 4000000 in
set_option maxRecDepth 100000 in
theorem fr_X11_commit {N : Nat}  {u0 σ0 : q_St} {r0 : Int32} (hF : fX11_commit N u0 = some (r0, σ0)) : Fr wi_X11_commit wa_X11_commit wj_X11_commit u0 σ0 := by
  have hB113 : ∀ (n : Nat) (x2 : Int32) (u : q_St), Fr wi_X11_commit wa_X11_commit wj_X11_commit u0 u → q_lp (fX11_commit_b113 N) (fun _ _ => none) n x2 u = some (r0, σ0) → Fr wi_X11_commit wa_X11_commit wj_X11_commit u0 σ0 := by
    intro n
    induction n with
    | zero => intro x2 u hfr hF; exact absurd (show (none : Option (Int32 × q_St)) = some _ from hF) (fun h => nomatch h)
    | succ n hi113 =>
      intro x2 u hfr hF
      obtain ⟨ih113, hih⟩ : ∃ q, q = q_lp (fX11_commit_b113 N) (fun _ _ => none) n := ⟨_, rfl⟩
      rw [← hih] at hi113
      have hF : fX11_commit_b113 N (q_lp (fX11_commit_b113 N) (fun _ _ => none) n) x2 u = some (r0, σ0) := hF
      rw [← hih] at hF
      clear hih
      unfold fX11_commit_b113 at hF
      rcases fr_if hF with hF | hF
      · obtain ⟨u10, hfr, hF⟩ := fr_si hfr hF (by decide)
        cases hF; exact hfr
      · obtain ⟨u11, hfr, hF⟩ := fr_wa hfr hF (by decide)
        obtain ⟨v12, hF⟩ := fr_nm hF
        exact hi113 v12 u11 hfr hF
  have hB72 : ∀ (n : Nat) (x2 : Int32) (u : q_St), Fr wi_X11_commit wa_X11_commit wj_X11_commit u0 u → q_lp (fX11_commit_b72 N) (fun _ _ => none) n x2 u = some (r0, σ0) → Fr wi_X11_commit wa_X11_commit wj_X11_commit u0 σ0 := by
    intro n
    induction n with
    | zero => intro x2 u hfr hF; exact absurd (show (none : Option (Int32 × q_St)) = some _ from hF) (fun h => nomatch h)
    | succ n hi72 =>
      intro x2 u hfr hF
      obtain ⟨ih72, hih⟩ : ∃ q, q = q_lp (fX11_commit_b72 N) (fun _ _ => none) n := ⟨_, rfl⟩
      rw [← hih] at hi72
      have hF : fX11_commit_b72 N (q_lp (fX11_commit_b72 N) (fun _ _ => none) n) x2 u = some (r0, σ0) := hF
      rw [← hih] at hF
      clear hih
      unfold fX11_commit_b72 at hF
      rcases fr_if hF with hF | hF
      · obtain ⟨r4, u5, hc6, hF⟩ := q_bnd_some hF
        have hfr := hfr.app (fr_X11_keep hc6) (by decide) (by decide) (by decide)
        obtain ⟨r7, u8, hc9, hF⟩ := q_bnd_some hF
        have hfr := hfr.app (fr_X11_bringHome hc9) (by decide) (by decide) (by decide)
        rcases fr_if hF with hF | hF
        · cases hF; exact hfr
        · exact hB113 N 0 u8 hfr hF
      · obtain ⟨v13, hF⟩ := fr_rd hF
        obtain ⟨u14, hfr, hF⟩ := fr_wa hfr hF (by decide)
        obtain ⟨v15, hF⟩ := fr_nm hF
        exact hi72 v15 u14 hfr hF
  have hB29 : ∀ (n : Nat) (x1 : Int32) (x2 : Int32) (u : q_St), Fr wi_X11_commit wa_X11_commit wj_X11_commit u0 u → q_lp (fX11_commit_b29 N) (fun _ _ _ => none) n x1 x2 u = some (r0, σ0) → Fr wi_X11_commit wa_X11_commit wj_X11_commit u0 σ0 := by
    intro n
    induction n with
    | zero => intro x1 x2 u hfr hF; exact absurd (show (none : Option (Int32 × q_St)) = some _ from hF) (fun h => nomatch h)
    | succ n hi29 =>
      intro x1 x2 u hfr hF
      obtain ⟨ih29, hih⟩ : ∃ q, q = q_lp (fX11_commit_b29 N) (fun _ _ _ => none) n := ⟨_, rfl⟩
      rw [← hih] at hi29
      have hF : fX11_commit_b29 N (q_lp (fX11_commit_b29 N) (fun _ _ _ => none) n) x1 x2 u = some (r0, σ0) := hF
      rw [← hih] at hF
      clear hih
      unfold fX11_commit_b29 at hF
      rcases fr_if hF with hF | hF
      · obtain ⟨u2, hfr, hF⟩ := fr_si hfr hF (by decide)
        obtain ⟨u3, hfr, hF⟩ := fr_si hfr hF (by decide)
        exact hB72 N 0 u3 hfr hF
      · obtain ⟨r16, u17, hc18, hF⟩ := q_bnd_some hF
        have hfr := hfr.app (fr_X11_write hc18) (by decide) (by decide) (by decide)
        rcases fr_if hF with hF | hF
        · cases hF; exact hfr
        · obtain ⟨u19, hfr, hF⟩ := fr_si hfr hF (by decide)
          obtain ⟨v20, hF⟩ := fr_nm hF
          exact hi29 x1 v20 u19 hfr hF
  unfold fX11_commit at hF
  have hfr := Fr.rf wi_X11_commit wa_X11_commit wj_X11_commit u0
  rcases fr_if hF with hF | hF
  · cases hF; exact hfr
  · obtain ⟨v1, hF⟩ := fr_nm hF
    exact hB29 N v1 0 u0 hfr hF
abbrev wi_X11_sync : List Nat := [9, 10, 11, 12, 13, 14, 15, 16, 17, 18, 19, 20, 21, 22, 23, 25, 26]
abbrev wa_X11_sync : List Nat := [0, 1, 2, 3, 4, 19, 20, 21, 22, 23, 24, 25, 26, 27, 28, 29, 30, 31, 32, 33, 34]
abbrev wj_X11_sync : List Nat := [1]
set_option maxHeartbeats 4000000 in
set_option maxRecDepth 100000 in
theorem fr_X11_sync {N : Nat}  {u0 σ0 : q_St} {r0 : Int32} (hF : fX11_sync N u0 = some (r0, σ0)) : Fr wi_X11_sync wa_X11_sync wj_X11_sync u0 σ0 := by
  unfold fX11_sync at hF
  have hfr := Fr.rf wi_X11_sync wa_X11_sync wj_X11_sync u0
  rcases fr_if hF with hF | hF
  · cases hF; exact hfr
  · obtain ⟨v1, hF⟩ := fr_nm hF
    obtain ⟨r2, u3, hc4, hF⟩ := q_bnd_some hF
    have hfr := hfr.app (fr_X11_commit hc4) (by decide) (by decide) (by decide)
    rcases fr_if hF with hF | hF
    · cases hF; exact hfr
    · cases hF; exact hfr
abbrev wi_X11_clean : List Nat := [9, 10, 12, 13, 14, 15, 18, 19, 20, 21, 22, 23]
abbrev wa_X11_clean : List Nat := [0, 1, 4]
abbrev wj_X11_clean : List Nat := []
set_option maxHeartbeats 4000000 in
set_option maxRecDepth 100000 in
theorem fr_X11_clean {N : Nat}  {u0 σ0 : q_St} {r0 : Int32} (hF : fX11_clean N u0 = some (r0, σ0)) : Fr wi_X11_clean wa_X11_clean wj_X11_clean u0 σ0 := by
  unfold fX11_clean at hF
  have hfr := Fr.rf wi_X11_clean wa_X11_clean wj_X11_clean u0
  rcases fr_if hF with hF | hF
  · cases hF; exact hfr
  · obtain ⟨r1, u2, hc3, hF⟩ := q_bnd_some hF
    have hfr := hfr.app (fr_X11_step hc3) (by decide) (by decide) (by decide)
    cases hF; exact hfr
abbrev wi_X11_power : List Nat := [10]
abbrev wa_X11_power : List Nat := []
abbrev wj_X11_power : List Nat := []
set_option maxHeartbeats 4000000 in
set_option maxRecDepth 100000 in
theorem fr_X11_power {N : Nat} {o1 : Int32} {u0 σ0 : q_St} {r0 : Int32} (hF : fX11_power N o1 u0 = some (r0, σ0)) : Fr wi_X11_power wa_X11_power wj_X11_power u0 σ0 := by
  have hB10 : ∀ (y0 : Int32) (u : q_St), Fr wi_X11_power wa_X11_power wj_X11_power u0 u → fX11_power_b10 N y0 u = some (r0, σ0) → Fr wi_X11_power wa_X11_power wj_X11_power u0 σ0 := by
    intro y0 u hfr hF
    unfold fX11_power_b10 at hF
    obtain ⟨u1, hfr, hF⟩ := fr_si hfr hF (by decide)
    have hF := (q_rz_some hF).2
    cases hF; exact hfr
  unfold fX11_power at hF
  have hfr := Fr.rf wi_X11_power wa_X11_power wj_X11_power u0
  rcases fr_if hF with hF | hF
  · exact hB10 o1 u0 hfr hF
  · exact hB10 (-1) u0 hfr hF
abbrev wi_X11_forget : List Nat := [25]
abbrev wa_X11_forget : List Nat := [5, 6, 7, 8, 9, 10, 11, 12, 13, 14, 15, 16, 17, 18, 33]
abbrev wj_X11_forget : List Nat := [0]
set_option maxHeartbeats 4000000 in
set_option maxRecDepth 100000 in
theorem fr_X11_forget {N : Nat}  {u0 σ0 : q_St} {r0 : Unit} (hF : fX11_forget N u0 = some (r0, σ0)) : Fr wi_X11_forget wa_X11_forget wj_X11_forget u0 σ0 := by
  have hB281 : ∀ (n : Nat) (x1 : Int32) (u : q_St), Fr wi_X11_forget wa_X11_forget wj_X11_forget u0 u → q_lp (fX11_forget_b281 N) (fun _ _ => none) n x1 u = some (r0, σ0) → Fr wi_X11_forget wa_X11_forget wj_X11_forget u0 σ0 := by
    intro n
    induction n with
    | zero => intro x1 u hfr hF; exact absurd (show (none : Option (Unit × q_St)) = some _ from hF) (fun h => nomatch h)
    | succ n hi281 =>
      intro x1 u hfr hF
      obtain ⟨ih281, hih⟩ : ∃ q, q = q_lp (fX11_forget_b281 N) (fun _ _ => none) n := ⟨_, rfl⟩
      rw [← hih] at hi281
      have hF : fX11_forget_b281 N (q_lp (fX11_forget_b281 N) (fun _ _ => none) n) x1 u = some (r0, σ0) := hF
      rw [← hih] at hF
      clear hih
      unfold fX11_forget_b281 at hF
      rcases fr_if hF with hF | hF
      · obtain ⟨u1, hfr, hF⟩ := fr_si hfr hF (by decide)
        cases hF; exact hfr
      · obtain ⟨v2, hF⟩ := fr_rd hF
        obtain ⟨u3, hfr, hF⟩ := fr_wa hfr hF (by decide)
        obtain ⟨v4, hF⟩ := fr_nm hF
        exact hi281 v4 u3 hfr hF
  have hB246 : ∀ (n : Nat) (x1 : Int32) (u : q_St), Fr wi_X11_forget wa_X11_forget wj_X11_forget u0 u → q_lp (fX11_forget_b246 N) (fun _ _ => none) n x1 u = some (r0, σ0) → Fr wi_X11_forget wa_X11_forget wj_X11_forget u0 σ0 := by
    intro n
    induction n with
    | zero => intro x1 u hfr hF; exact absurd (show (none : Option (Unit × q_St)) = some _ from hF) (fun h => nomatch h)
    | succ n hi246 =>
      intro x1 u hfr hF
      obtain ⟨ih246, hih⟩ : ∃ q, q = q_lp (fX11_forget_b246 N) (fun _ _ => none) n := ⟨_, rfl⟩
      rw [← hih] at hi246
      have hF : fX11_forget_b246 N (q_lp (fX11_forget_b246 N) (fun _ _ => none) n) x1 u = some (r0, σ0) := hF
      rw [← hih] at hF
      clear hih
      unfold fX11_forget_b246 at hF
      rcases fr_if hF with hF | hF
      · exact hB281 N 0 u hfr hF
      · obtain ⟨v5, hF⟩ := fr_rd hF
        obtain ⟨u6, hfr, hF⟩ := fr_wa hfr hF (by decide)
        obtain ⟨u7, hfr, hF⟩ := fr_wa hfr hF (by decide)
        obtain ⟨v8, hF⟩ := fr_nm hF
        exact hi246 v8 u7 hfr hF
  have hB207 : ∀ (n : Nat) (x1 : Int32) (u : q_St), Fr wi_X11_forget wa_X11_forget wj_X11_forget u0 u → q_lp (fX11_forget_b207 N) (fun _ _ => none) n x1 u = some (r0, σ0) → Fr wi_X11_forget wa_X11_forget wj_X11_forget u0 σ0 := by
    intro n
    induction n with
    | zero => intro x1 u hfr hF; exact absurd (show (none : Option (Unit × q_St)) = some _ from hF) (fun h => nomatch h)
    | succ n hi207 =>
      intro x1 u hfr hF
      obtain ⟨ih207, hih⟩ : ∃ q, q = q_lp (fX11_forget_b207 N) (fun _ _ => none) n := ⟨_, rfl⟩
      rw [← hih] at hi207
      have hF : fX11_forget_b207 N (q_lp (fX11_forget_b207 N) (fun _ _ => none) n) x1 u = some (r0, σ0) := hF
      rw [← hih] at hF
      clear hih
      unfold fX11_forget_b207 at hF
      rcases fr_if hF with hF | hF
      · exact hB246 N 0 u hfr hF
      · obtain ⟨v9, hF⟩ := fr_rd hF
        obtain ⟨u10, hfr, hF⟩ := fr_wa hfr hF (by decide)
        obtain ⟨v11, hF⟩ := fr_rd hF
        obtain ⟨u12, hfr, hF⟩ := fr_wj hfr hF (by decide)
        obtain ⟨v13, hF⟩ := fr_nm hF
        exact hi207 v13 u12 hfr hF
  have hB180 : ∀ (n : Nat) (x1 : Int32) (u : q_St), Fr wi_X11_forget wa_X11_forget wj_X11_forget u0 u → q_lp (fX11_forget_b180 N) (fun _ _ => none) n x1 u = some (r0, σ0) → Fr wi_X11_forget wa_X11_forget wj_X11_forget u0 σ0 := by
    intro n
    induction n with
    | zero => intro x1 u hfr hF; exact absurd (show (none : Option (Unit × q_St)) = some _ from hF) (fun h => nomatch h)
    | succ n hi180 =>
      intro x1 u hfr hF
      obtain ⟨ih180, hih⟩ : ∃ q, q = q_lp (fX11_forget_b180 N) (fun _ _ => none) n := ⟨_, rfl⟩
      rw [← hih] at hi180
      have hF : fX11_forget_b180 N (q_lp (fX11_forget_b180 N) (fun _ _ => none) n) x1 u = some (r0, σ0) := hF
      rw [← hih] at hF
      clear hih
      unfold fX11_forget_b180 at hF
      rcases fr_if hF with hF | hF
      · exact hB207 N 0 u hfr hF
      · obtain ⟨v14, hF⟩ := fr_rd hF
        obtain ⟨u15, hfr, hF⟩ := fr_wa hfr hF (by decide)
        obtain ⟨v16, hF⟩ := fr_nm hF
        exact hi180 v16 u15 hfr hF
  have hB153 : ∀ (n : Nat) (x1 : Int32) (u : q_St), Fr wi_X11_forget wa_X11_forget wj_X11_forget u0 u → q_lp (fX11_forget_b153 N) (fun _ _ => none) n x1 u = some (r0, σ0) → Fr wi_X11_forget wa_X11_forget wj_X11_forget u0 σ0 := by
    intro n
    induction n with
    | zero => intro x1 u hfr hF; exact absurd (show (none : Option (Unit × q_St)) = some _ from hF) (fun h => nomatch h)
    | succ n hi153 =>
      intro x1 u hfr hF
      obtain ⟨ih153, hih⟩ : ∃ q, q = q_lp (fX11_forget_b153 N) (fun _ _ => none) n := ⟨_, rfl⟩
      rw [← hih] at hi153
      have hF : fX11_forget_b153 N (q_lp (fX11_forget_b153 N) (fun _ _ => none) n) x1 u = some (r0, σ0) := hF
      rw [← hih] at hF
      clear hih
      unfold fX11_forget_b153 at hF
      rcases fr_if hF with hF | hF
      · exact hB180 N 0 u hfr hF
      · obtain ⟨v17, hF⟩ := fr_rd hF
        obtain ⟨u18, hfr, hF⟩ := fr_wa hfr hF (by decide)
        obtain ⟨v19, hF⟩ := fr_nm hF
        exact hi153 v19 u18 hfr hF
  have hB127 : ∀ (n : Nat) (x1 : Int32) (u : q_St), Fr wi_X11_forget wa_X11_forget wj_X11_forget u0 u → q_lp (fX11_forget_b127 N) (fun _ _ => none) n x1 u = some (r0, σ0) → Fr wi_X11_forget wa_X11_forget wj_X11_forget u0 σ0 := by
    intro n
    induction n with
    | zero => intro x1 u hfr hF; exact absurd (show (none : Option (Unit × q_St)) = some _ from hF) (fun h => nomatch h)
    | succ n hi127 =>
      intro x1 u hfr hF
      obtain ⟨ih127, hih⟩ : ∃ q, q = q_lp (fX11_forget_b127 N) (fun _ _ => none) n := ⟨_, rfl⟩
      rw [← hih] at hi127
      have hF : fX11_forget_b127 N (q_lp (fX11_forget_b127 N) (fun _ _ => none) n) x1 u = some (r0, σ0) := hF
      rw [← hih] at hF
      clear hih
      unfold fX11_forget_b127 at hF
      rcases fr_if hF with hF | hF
      · exact hB153 N 0 u hfr hF
      · obtain ⟨v20, hF⟩ := fr_rd hF
        obtain ⟨u21, hfr, hF⟩ := fr_wa hfr hF (by decide)
        obtain ⟨v22, hF⟩ := fr_nm hF
        exact hi127 v22 u21 hfr hF
  have hB100 : ∀ (n : Nat) (x1 : Int32) (u : q_St), Fr wi_X11_forget wa_X11_forget wj_X11_forget u0 u → q_lp (fX11_forget_b100 N) (fun _ _ => none) n x1 u = some (r0, σ0) → Fr wi_X11_forget wa_X11_forget wj_X11_forget u0 σ0 := by
    intro n
    induction n with
    | zero => intro x1 u hfr hF; exact absurd (show (none : Option (Unit × q_St)) = some _ from hF) (fun h => nomatch h)
    | succ n hi100 =>
      intro x1 u hfr hF
      obtain ⟨ih100, hih⟩ : ∃ q, q = q_lp (fX11_forget_b100 N) (fun _ _ => none) n := ⟨_, rfl⟩
      rw [← hih] at hi100
      have hF : fX11_forget_b100 N (q_lp (fX11_forget_b100 N) (fun _ _ => none) n) x1 u = some (r0, σ0) := hF
      rw [← hih] at hF
      clear hih
      unfold fX11_forget_b100 at hF
      rcases fr_if hF with hF | hF
      · exact hB127 N 0 u hfr hF
      · obtain ⟨v23, hF⟩ := fr_rd hF
        obtain ⟨u24, hfr, hF⟩ := fr_wa hfr hF (by decide)
        obtain ⟨v25, hF⟩ := fr_nm hF
        exact hi100 v25 u24 hfr hF
  have hB2 : ∀ (n : Nat) (x1 : Int32) (u : q_St), Fr wi_X11_forget wa_X11_forget wj_X11_forget u0 u → q_lp (fX11_forget_b2 N) (fun _ _ => none) n x1 u = some (r0, σ0) → Fr wi_X11_forget wa_X11_forget wj_X11_forget u0 σ0 := by
    intro n
    induction n with
    | zero => intro x1 u hfr hF; exact absurd (show (none : Option (Unit × q_St)) = some _ from hF) (fun h => nomatch h)
    | succ n hi2 =>
      intro x1 u hfr hF
      obtain ⟨ih2, hih⟩ : ∃ q, q = q_lp (fX11_forget_b2 N) (fun _ _ => none) n := ⟨_, rfl⟩
      rw [← hih] at hi2
      have hF : fX11_forget_b2 N (q_lp (fX11_forget_b2 N) (fun _ _ => none) n) x1 u = some (r0, σ0) := hF
      rw [← hih] at hF
      clear hih
      unfold fX11_forget_b2 at hF
      rcases fr_if hF with hF | hF
      · exact hB100 N 0 u hfr hF
      · obtain ⟨v26, hF⟩ := fr_rd hF
        obtain ⟨u27, hfr, hF⟩ := fr_wa hfr hF (by decide)
        obtain ⟨v28, hF⟩ := fr_rd hF
        obtain ⟨u29, hfr, hF⟩ := fr_wa hfr hF (by decide)
        obtain ⟨v30, hF⟩ := fr_rd hF
        obtain ⟨u31, hfr, hF⟩ := fr_wa hfr hF (by decide)
        obtain ⟨v32, hF⟩ := fr_rd hF
        obtain ⟨u33, hfr, hF⟩ := fr_wa hfr hF (by decide)
        obtain ⟨v34, hF⟩ := fr_rd hF
        obtain ⟨u35, hfr, hF⟩ := fr_wa hfr hF (by decide)
        obtain ⟨v36, hF⟩ := fr_rd hF
        obtain ⟨u37, hfr, hF⟩ := fr_wa hfr hF (by decide)
        obtain ⟨v38, hF⟩ := fr_rd hF
        obtain ⟨u39, hfr, hF⟩ := fr_wa hfr hF (by decide)
        obtain ⟨v40, hF⟩ := fr_nm hF
        exact hi2 v40 u39 hfr hF
  unfold fX11_forget at hF
  have hfr := Fr.rf wi_X11_forget wa_X11_forget wj_X11_forget u0
  exact hB2 N 0 u0 hfr hF
abbrev wi_X11_fill : List Nat := [9, 10, 12, 14, 18, 24]
abbrev wa_X11_fill : List Nat := [0]
abbrev wj_X11_fill : List Nat := []
set_option maxHeartbeats 4000000 in
set_option maxRecDepth 100000 in
theorem fr_X11_fill {N : Nat}  {u0 σ0 : q_St} {r0 : Int32} (hF : fX11_fill N u0 = some (r0, σ0)) : Fr wi_X11_fill wa_X11_fill wj_X11_fill u0 σ0 := by
  have hB12 : ∀ (ih2 : Int32 → q_St → Option (Int32 × q_St)) (hi2 : ∀ (x1 : Int32) (u : q_St), Fr wi_X11_fill wa_X11_fill wj_X11_fill u0 u → ih2 x1 u = some (r0, σ0) → Fr wi_X11_fill wa_X11_fill wj_X11_fill u0 σ0), ∀ (n : Nat) (x1 : Int32) (x2 : Int32) (u : q_St), Fr wi_X11_fill wa_X11_fill wj_X11_fill u0 u → q_lp (fX11_fill_b12 N ih2) (fun _ _ _ => none) n x1 x2 u = some (r0, σ0) → Fr wi_X11_fill wa_X11_fill wj_X11_fill u0 σ0 := by
    intro ih2 hi2 n
    induction n with
    | zero => intro x1 x2 u hfr hF; exact absurd (show (none : Option (Int32 × q_St)) = some _ from hF) (fun h => nomatch h)
    | succ n hi12 =>
      intro x1 x2 u hfr hF
      obtain ⟨ih12, hih⟩ : ∃ q, q = q_lp (fX11_fill_b12 N ih2) (fun _ _ _ => none) n := ⟨_, rfl⟩
      rw [← hih] at hi12
      have hF : fX11_fill_b12 N ih2 (q_lp (fX11_fill_b12 N ih2) (fun _ _ _ => none) n) x1 x2 u = some (r0, σ0) := hF
      rw [← hih] at hF
      clear hih
      unfold fX11_fill_b12 at hF
      rcases fr_if hF with hF | hF
      · obtain ⟨v9, hF⟩ := fr_nm hF
        exact hi2 v9 u hfr hF
      · obtain ⟨r10, u11, hc12, hF⟩ := q_bnd_some hF
        have hfr := hfr.app (fr_X11_writeBand hc12) (by decide) (by decide) (by decide)
        rcases fr_if hF with hF | hF
        · cases hF; exact hfr
        · obtain ⟨v13, hF⟩ := fr_nm hF
          exact hi12 x1 v13 u11 hfr hF
  have hB2 : ∀ (n : Nat) (x1 : Int32) (u : q_St), Fr wi_X11_fill wa_X11_fill wj_X11_fill u0 u → q_lp (fX11_fill_b2 N) (fun _ _ => none) n x1 u = some (r0, σ0) → Fr wi_X11_fill wa_X11_fill wj_X11_fill u0 σ0 := by
    intro n
    induction n with
    | zero => intro x1 u hfr hF; exact absurd (show (none : Option (Int32 × q_St)) = some _ from hF) (fun h => nomatch h)
    | succ n hi2 =>
      intro x1 u hfr hF
      obtain ⟨ih2, hih⟩ : ∃ q, q = q_lp (fX11_fill_b2 N) (fun _ _ => none) n := ⟨_, rfl⟩
      rw [← hih] at hi2
      have hF : fX11_fill_b2 N (q_lp (fX11_fill_b2 N) (fun _ _ => none) n) x1 u = some (r0, σ0) := hF
      rw [← hih] at hF
      clear hih
      unfold fX11_fill_b2 at hF
      rcases fr_if hF with hF | hF
      · obtain ⟨r1, u2, hc3, hF⟩ := q_bnd_some hF
        have hfr := hfr.app (fr_X11_record hc3) (by decide) (by decide) (by decide)
        rcases fr_if hF with hF | hF
        · cases hF; exact hfr
        · obtain ⟨u4, hfr, hF⟩ := fr_si hfr hF (by decide)
          obtain ⟨r5, u6, hc7, hF⟩ := q_bnd_some hF
          have hfr := hfr.app (fr_X11_oldest hc7) (by decide) (by decide) (by decide)
          obtain ⟨u8, hfr, hF⟩ := fr_si hfr hF (by decide)
          cases hF; exact hfr
      · exact hB12 ih2 hi2 N x1 0 u hfr hF
  unfold fX11_fill at hF
  have hfr := Fr.rf wi_X11_fill wa_X11_fill wj_X11_fill u0
  exact hB2 N 0 u0 hfr hF
abbrev wi_X11_recovers : List Nat := [9, 10, 11, 12, 13, 14, 15, 17, 18, 19, 20, 21, 22, 23, 24]
abbrev wa_X11_recovers : List Nat := [0, 1, 2, 3, 4]
abbrev wj_X11_recovers : List Nat := []
set_option maxHeartbeats 4000000 in
set_option maxRecDepth 100000 in
theorem fr_X11_recovers {N : Nat}  {u0 σ0 : q_St} {r0 : Int32} (hF : fX11_recovers N u0 = some (r0, σ0)) : Fr wi_X11_recovers wa_X11_recovers wj_X11_recovers u0 σ0 := by
  have hB88 : ∀ (u : q_St), Fr wi_X11_recovers wa_X11_recovers wj_X11_recovers u0 u → fX11_recovers_b88 N u = some (r0, σ0) → Fr wi_X11_recovers wa_X11_recovers wj_X11_recovers u0 σ0 := by
    intro u hfr hF
    unfold fX11_recovers_b88 at hF
    cases hF; exact hfr
  have hB74 : ∀ (u : q_St), Fr wi_X11_recovers wa_X11_recovers wj_X11_recovers u0 u → fX11_recovers_b74 N u = some (r0, σ0) → Fr wi_X11_recovers wa_X11_recovers wj_X11_recovers u0 σ0 := by
    intro u hfr hF
    unfold fX11_recovers_b74 at hF
    rcases fr_if hF with hF | hF
    · exact hB88 u hfr hF
    · obtain ⟨r1, u2, hc3, hF⟩ := q_bnd_some hF
      have hfr := hfr.app (fr_X11_bringHome hc3) (by decide) (by decide) (by decide)
      rcases fr_if hF with hF | hF
      · cases hF; exact hfr
      · exact hB88 u2 hfr hF
  have hB57 : ∀ (u : q_St), Fr wi_X11_recovers wa_X11_recovers wj_X11_recovers u0 u → fX11_recovers_b57 N u = some (r0, σ0) → Fr wi_X11_recovers wa_X11_recovers wj_X11_recovers u0 σ0 := by
    intro u hfr hF
    unfold fX11_recovers_b57 at hF
    rcases fr_if hF with hF | hF
    · exact hB74 u hfr hF
    · obtain ⟨r4, u5, hc6, hF⟩ := q_bnd_some hF
      have hfr := hfr.app (fr_X11_fill hc6) (by decide) (by decide) (by decide)
      rcases fr_if hF with hF | hF
      · cases hF; exact hfr
      · exact hB74 u5 hfr hF
  have hB38 : ∀ (n : Nat) (u : q_St), Fr wi_X11_recovers wa_X11_recovers wj_X11_recovers u0 u → q_lp (fX11_recovers_b38 N) (fun _ => none) n u = some (r0, σ0) → Fr wi_X11_recovers wa_X11_recovers wj_X11_recovers u0 σ0 := by
    intro n
    induction n with
    | zero => intro u hfr hF; exact absurd (show (none : Option (Int32 × q_St)) = some _ from hF) (fun h => nomatch h)
    | succ n hi38 =>
      intro u hfr hF
      obtain ⟨ih38, hih⟩ : ∃ q, q = q_lp (fX11_recovers_b38 N) (fun _ => none) n := ⟨_, rfl⟩
      rw [← hih] at hi38
      have hF : fX11_recovers_b38 N (q_lp (fX11_recovers_b38 N) (fun _ => none) n) u = some (r0, σ0) := hF
      rw [← hih] at hF
      clear hih
      unfold fX11_recovers_b38 at hF
      rcases fr_if hF with hF | hF
      · exact hB57 u hfr hF
      · obtain ⟨r9, u10, hc11, hF⟩ := q_bnd_some hF
        have hfr := hfr.app (fr_X11_step hc11) (by decide) (by decide) (by decide)
        rcases fr_if hF with hF | hF
        · cases hF; exact hfr
        · exact hi38 u10 hfr hF
  have hB20 : ∀ (u : q_St), Fr wi_X11_recovers wa_X11_recovers wj_X11_recovers u0 u → fX11_recovers_b20 N u = some (r0, σ0) → Fr wi_X11_recovers wa_X11_recovers wj_X11_recovers u0 σ0 := by
    intro u hfr hF
    unfold fX11_recovers_b20 at hF
    rcases fr_if hF with hF | hF
    · exact hB57 u hfr hF
    · obtain ⟨u7, hfr, hF⟩ := fr_si hfr hF (by decide)
      obtain ⟨u8, hfr, hF⟩ := fr_si hfr hF (by decide)
      exact hB38 N u8 hfr hF
  unfold fX11_recovers at hF
  have hfr := Fr.rf wi_X11_recovers wa_X11_recovers wj_X11_recovers u0
  rcases fr_if hF with hF | hF
  · exact hB20 u0 hfr hF
  · rcases fr_if hF with hF | hF
    · obtain ⟨u12, hfr, hF⟩ := fr_si hfr hF (by decide)
      exact hB20 u12 hfr hF
    · exact hB20 u0 hfr hF
abbrev wi_X11_restore : List Nat := [9, 10, 11, 12, 13, 14, 15, 17, 18, 19, 20, 21, 22, 23, 24, 25]
abbrev wa_X11_restore : List Nat := [0, 1, 2, 3, 4, 5, 6, 7, 8, 9, 10, 11, 12, 13, 14, 15, 16, 17, 18, 33]
abbrev wj_X11_restore : List Nat := [0]
set_option maxHeartbeats 4000000 in
set_option maxRecDepth 100000 in
theorem fr_X11_restore {N : Nat}  {u0 σ0 : q_St} {r0 : Int32} (hF : fX11_restore N u0 = some (r0, σ0)) : Fr wi_X11_restore wa_X11_restore wj_X11_restore u0 σ0 := by
  unfold fX11_restore at hF
  have hfr := Fr.rf wi_X11_restore wa_X11_restore wj_X11_restore u0
  obtain ⟨v1, hF⟩ := fr_nm hF
  obtain ⟨u2, hfr, hF⟩ := fr_si hfr hF (by decide)
  obtain ⟨r3, u4, hc5, hF⟩ := q_bnd_some hF
  have hfr := hfr.app (fr_X11_forget hc5) (by decide) (by decide) (by decide)
  obtain ⟨r6, u7, hc8, hF⟩ := q_bnd_some hF
  have hfr := hfr.app (fr_X11_recovers hc8) (by decide) (by decide) (by decide)
  rcases fr_if hF with hF | hF
  · cases hF; exact hfr
  · cases hF; exact hfr
abbrev wi_X11_as : List Nat := [28]
abbrev wa_X11_as : List Nat := []
abbrev wj_X11_as : List Nat := []
set_option maxHeartbeats 4000000 in
set_option maxRecDepth 100000 in
theorem fr_X11_as {N : Nat} {o1 : Int32} {u0 σ0 : q_St} {r0 : Int32} (hF : fX11_as N o1 u0 = some (r0, σ0)) : Fr wi_X11_as wa_X11_as wj_X11_as u0 σ0 := by
  unfold fX11_as at hF
  have hfr := Fr.rf wi_X11_as wa_X11_as wj_X11_as u0
  rcases fr_if hF with hF | hF
  · cases hF; exact hfr
  · rcases fr_if hF with hF | hF
    · cases hF; exact hfr
    · rcases fr_if hF with hF | hF
      · obtain ⟨v1, hF⟩ := fr_nm hF
        obtain ⟨u2, hfr, hF⟩ := fr_si hfr hF (by decide)
        cases hF; exact hfr
      · cases hF; exact hfr
abbrev wi_X11_begins : List Nat := [9, 10, 11, 12, 13, 14, 15, 16, 17, 18, 19, 20, 21, 22, 23, 25, 26]
abbrev wa_X11_begins : List Nat := [0, 1, 2, 3, 4, 19, 20, 21, 22, 23, 24, 25, 26, 27, 28, 29, 30, 31, 32, 33, 34]
abbrev wj_X11_begins : List Nat := [1]
set_option maxHeartbeats 4000000 in
set_option maxRecDepth 100000 in
theorem fr_X11_begins {N : Nat}  {u0 σ0 : q_St} {r0 : Int32} (hF : fX11_begins N u0 = some (r0, σ0)) : Fr wi_X11_begins wa_X11_begins wj_X11_begins u0 σ0 := by
  have hB25 : ∀ (u : q_St), Fr wi_X11_begins wa_X11_begins wj_X11_begins u0 u → fX11_begins_b25 N u = some (r0, σ0) → Fr wi_X11_begins wa_X11_begins wj_X11_begins u0 σ0 := by
    intro u hfr hF
    unfold fX11_begins_b25 at hF
    cases hF; exact hfr
  unfold fX11_begins at hF
  have hfr := Fr.rf wi_X11_begins wa_X11_begins wj_X11_begins u0
  rcases fr_if hF with hF | hF
  · cases hF; exact hfr
  · rcases fr_if hF with hF | hF
    · exact hB25 u0 hfr hF
    · obtain ⟨r1, u2, hc3, hF⟩ := q_bnd_some hF
      have hfr := hfr.app (fr_X11_commit hc3) (by decide) (by decide) (by decide)
      rcases fr_if hF with hF | hF
      · cases hF; exact hfr
      · exact hB25 u2 hfr hF
abbrev wi_X11_isNode : List Nat := []
abbrev wa_X11_isNode : List Nat := []
abbrev wj_X11_isNode : List Nat := []
set_option maxHeartbeats 4000000 in
set_option maxRecDepth 100000 in
theorem fr_X11_isNode {N : Nat} {o1 : Int32} {u0 σ0 : q_St} {r0 : Int32} (hF : fX11_isNode N o1 u0 = some (r0, σ0)) : Fr wi_X11_isNode wa_X11_isNode wj_X11_isNode u0 σ0 := by
  unfold fX11_isNode at hF
  have hfr := Fr.rf wi_X11_isNode wa_X11_isNode wj_X11_isNode u0
  rcases fr_if hF with hF | hF
  · cases hF; exact hfr
  · rcases fr_if hF with hF | hF
    · cases hF; exact hfr
    · obtain ⟨v1, hF⟩ := fr_rd hF
      rcases fr_if hF with hF | hF
      · cases hF; exact hfr
      · cases hF; exact hfr
abbrev wi_X11_soil : List Nat := [25]
abbrev wa_X11_soil : List Nat := [33]
abbrev wj_X11_soil : List Nat := []
set_option maxHeartbeats 4000000 in
set_option maxRecDepth 100000 in
theorem fr_X11_soil {N : Nat} {o1 : Int32} {u0 σ0 : q_St} {r0 : Unit} (hF : fX11_soil N o1 u0 = some (r0, σ0)) : Fr wi_X11_soil wa_X11_soil wj_X11_soil u0 σ0 := by
  have hB19 : ∀ (x1 : Int32) (y0 : Int32) (y1 : Int32) (u : q_St), Fr wi_X11_soil wa_X11_soil wj_X11_soil u0 u → fX11_soil_b19 N x1 y0 y1 u = some (r0, σ0) → Fr wi_X11_soil wa_X11_soil wj_X11_soil u0 σ0 := by
    intro x1 y0 y1 u hfr hF
    unfold fX11_soil_b19 at hF
    obtain ⟨u2, hfr, hF⟩ := fr_si hfr hF (by decide)
    obtain ⟨u3, hfr, hF⟩ := fr_wa hfr hF (by decide)
    cases hF; exact hfr
  unfold fX11_soil at hF
  have hfr := Fr.rf wi_X11_soil wa_X11_soil wj_X11_soil u0
  obtain ⟨v1, hF⟩ := fr_rd hF
  rcases fr_if hF with hF | hF
  · exact hB19 o1 1 (q_i u0 25) u0 hfr hF
  · exact hB19 o1 0 (q_i u0 25) u0 hfr hF
abbrev wi_X11_soilNode : List Nat := [25]
abbrev wa_X11_soilNode : List Nat := [33]
abbrev wj_X11_soilNode : List Nat := []
set_option maxHeartbeats 4000000 in
set_option maxRecDepth 100000 in
theorem fr_X11_soilNode {N : Nat} {o1 : Int32} {u0 σ0 : q_St} {r0 : Unit} (hF : fX11_soilNode N o1 u0 = some (r0, σ0)) : Fr wi_X11_soilNode wa_X11_soilNode wj_X11_soilNode u0 σ0 := by
  unfold fX11_soilNode at hF
  have hfr := Fr.rf wi_X11_soilNode wa_X11_soilNode wj_X11_soilNode u0
  obtain ⟨r1, u2, hc3, hF⟩ := q_bnd_some hF
  have hfr := hfr.app (fr_X11_soil hc3) (by decide) (by decide) (by decide)
  cases hF; exact hfr
abbrev wi_X11_mode : List Nat := [9, 10, 11, 12, 13, 14, 15, 16, 17, 18, 19, 20, 21, 22, 23, 25, 26]
abbrev wa_X11_mode : List Nat := [0, 1, 2, 3, 4, 12, 19, 20, 21, 22, 23, 24, 25, 26, 27, 28, 29, 30, 31, 32, 33, 34]
abbrev wj_X11_mode : List Nat := [1]
set_option maxHeartbeats 4000000 in
set_option maxRecDepth 100000 in
theorem fr_X11_mode {N : Nat} {o1 : Int32} {o2 : Int32} {u0 σ0 : q_St} {r0 : Int32} (hF : fX11_mode N o1 o2 u0 = some (r0, σ0)) : Fr wi_X11_mode wa_X11_mode wj_X11_mode u0 σ0 := by
  have hB67 : ∀ (x1 : Int32) (x2 : Int32) (u : q_St), Fr wi_X11_mode wa_X11_mode wj_X11_mode u0 u → fX11_mode_b67 N x1 x2 u = some (r0, σ0) → Fr wi_X11_mode wa_X11_mode wj_X11_mode u0 σ0 := by
    intro x1 x2 u hfr hF
    unfold fX11_mode_b67 at hF
    obtain ⟨v8, hF⟩ := fr_rd hF
    obtain ⟨u9, hfr, hF⟩ := fr_wa hfr hF (by decide)
    rcases fr_if hF with hF | hF
    · cases hF; exact hfr
    · obtain ⟨r10, u11, hc12, hF⟩ := q_bnd_some hF
      have hfr := hfr.app (fr_X11_soilNode hc12) (by decide) (by decide) (by decide)
      cases hF; exact hfr
  unfold fX11_mode at hF
  have hfr := Fr.rf wi_X11_mode wa_X11_mode wj_X11_mode u0
  obtain ⟨r1, u2, hc3, hF⟩ := q_bnd_some hF
  have hfr := hfr.app (fr_X11_begins hc3) (by decide) (by decide) (by decide)
  rcases fr_if hF with hF | hF
  · cases hF; exact hfr
  · obtain ⟨r4, u5, hc6, hF⟩ := q_bnd_some hF
    have hfr := hfr.app (fr_X11_isNode hc6) (by decide) (by decide) (by decide)
    rcases fr_if hF with hF | hF
    · cases hF; exact hfr
    · obtain ⟨v7, hF⟩ := fr_rd hF
      rcases fr_if hF with hF | hF
      · cases hF; exact hfr
      · rcases fr_if hF with hF | hF
        · cases hF; exact hfr
        · rcases fr_if hF with hF | hF
          · rcases fr_if hF with hF | hF
            · exact hB67 o1 o2 u5 hfr hF
            · obtain ⟨v13, hF⟩ := fr_rd hF
              rcases fr_if hF with hF | hF
              · exact hB67 o1 o2 u5 hfr hF
              · cases hF; exact hfr
          · cases hF; exact hfr
abbrev wi_X11_give : List Nat := [9, 10, 11, 12, 13, 14, 15, 16, 17, 18, 19, 20, 21, 22, 23, 25, 26]
abbrev wa_X11_give : List Nat := [0, 1, 2, 3, 4, 11, 19, 20, 21, 22, 23, 24, 25, 26, 27, 28, 29, 30, 31, 32, 33, 34]
abbrev wj_X11_give : List Nat := [1]
set_option maxHeartbeats 4000000 in
set_option maxRecDepth 100000 in
theorem fr_X11_give {N : Nat} {o1 : Int32} {o2 : Int32} {u0 σ0 : q_St} {r0 : Int32} (hF : fX11_give N o1 o2 u0 = some (r0, σ0)) : Fr wi_X11_give wa_X11_give wj_X11_give u0 σ0 := by
  unfold fX11_give at hF
  have hfr := Fr.rf wi_X11_give wa_X11_give wj_X11_give u0
  obtain ⟨r1, u2, hc3, hF⟩ := q_bnd_some hF
  have hfr := hfr.app (fr_X11_begins hc3) (by decide) (by decide) (by decide)
  rcases fr_if hF with hF | hF
  · cases hF; exact hfr
  · obtain ⟨r4, u5, hc6, hF⟩ := q_bnd_some hF
    have hfr := hfr.app (fr_X11_isNode hc6) (by decide) (by decide) (by decide)
    rcases fr_if hF with hF | hF
    · cases hF; exact hfr
    · rcases fr_if hF with hF | hF
      · cases hF; exact hfr
      · rcases fr_if hF with hF | hF
        · rcases fr_if hF with hF | hF
          · obtain ⟨v7, hF⟩ := fr_rd hF
            obtain ⟨u8, hfr, hF⟩ := fr_wa hfr hF (by decide)
            rcases fr_if hF with hF | hF
            · cases hF; exact hfr
            · obtain ⟨r9, u10, hc11, hF⟩ := q_bnd_some hF
              have hfr := hfr.app (fr_X11_soilNode hc11) (by decide) (by decide) (by decide)
              cases hF; exact hfr
          · cases hF; exact hfr
        · cases hF; exact hfr
abbrev wi_X11_rights : List Nat := []
abbrev wa_X11_rights : List Nat := []
abbrev wj_X11_rights : List Nat := []
set_option maxHeartbeats 4000000 in
set_option maxRecDepth 100000 in
theorem fr_X11_rights {N : Nat} {o1 : Int32} {o2 : Int32} {u0 σ0 : q_St} {r0 : Int32} (hF : fX11_rights N o1 o2 u0 = some (r0, σ0)) : Fr wi_X11_rights wa_X11_rights wj_X11_rights u0 σ0 := by
  unfold fX11_rights at hF
  have hfr := Fr.rf wi_X11_rights wa_X11_rights wj_X11_rights u0
  rcases fr_if hF with hF | hF
  · cases hF; exact hfr
  · obtain ⟨r1, u2, hc3, hF⟩ := q_bnd_some hF
    have hfr := hfr.app (fr_X11_isNode hc3) (by decide) (by decide) (by decide)
    rcases fr_if hF with hF | hF
    · cases hF; exact hfr
    · rcases fr_if hF with hF | hF
      · obtain ⟨v5, hF⟩ := fr_rd hF
        rcases fr_if hF with hF | hF
        · cases hF; exact hfr
        · obtain ⟨v6, hF⟩ := fr_rd hF
          cases hF; exact hfr
      · rcases fr_if hF with hF | hF
        · obtain ⟨v4, hF⟩ := fr_rd hF
          cases hF; exact hfr
        · cases hF; exact hfr
abbrev wi_X11_isDirectory : List Nat := []
abbrev wa_X11_isDirectory : List Nat := []
abbrev wj_X11_isDirectory : List Nat := []
set_option maxHeartbeats 4000000 in
set_option maxRecDepth 100000 in
theorem fr_X11_isDirectory {N : Nat} {o1 : Int32} {u0 σ0 : q_St} {r0 : Int32} (hF : fX11_isDirectory N o1 u0 = some (r0, σ0)) : Fr wi_X11_isDirectory wa_X11_isDirectory wj_X11_isDirectory u0 σ0 := by
  unfold fX11_isDirectory at hF
  have hfr := Fr.rf wi_X11_isDirectory wa_X11_isDirectory wj_X11_isDirectory u0
  rcases fr_if hF with hF | hF
  · cases hF; exact hfr
  · rcases fr_if hF with hF | hF
    · cases hF; exact hfr
    · obtain ⟨v1, hF⟩ := fr_rd hF
      rcases fr_if hF with hF | hF
      · cases hF; exact hfr
      · cases hF; exact hfr
abbrev wi_X11_letter : List Nat := []
abbrev wa_X11_letter : List Nat := []
abbrev wj_X11_letter : List Nat := []
set_option maxHeartbeats 4000000 in
set_option maxRecDepth 100000 in
theorem fr_X11_letter {N : Nat} {o0 : Int64} {o2 : Int32} {u0 σ0 : q_St} {r0 : Int32} (hF : fX11_letter N o0 o2 u0 = some (r0, σ0)) : Fr wi_X11_letter wa_X11_letter wj_X11_letter u0 σ0 := by
  unfold fX11_letter at hF
  have hfr := Fr.rf wi_X11_letter wa_X11_letter wj_X11_letter u0
  rcases fr_if hF with hF | hF
  · cases hF; exact hfr
  · cases hF; exact hfr
abbrev wi_X11_isLetter : List Nat := []
abbrev wa_X11_isLetter : List Nat := []
abbrev wj_X11_isLetter : List Nat := []
set_option maxHeartbeats 4000000 in
set_option maxRecDepth 100000 in
theorem fr_X11_isLetter {N : Nat} {o0 : Int32} {u0 σ0 : q_St} {r0 : Int32} (hF : fX11_isLetter N o0 u0 = some (r0, σ0)) : Fr wi_X11_isLetter wa_X11_isLetter wj_X11_isLetter u0 σ0 := by
  have hB42 : ∀ (u : q_St), Fr wi_X11_isLetter wa_X11_isLetter wj_X11_isLetter u0 u → fX11_isLetter_b42 N u = some (r0, σ0) → Fr wi_X11_isLetter wa_X11_isLetter wj_X11_isLetter u0 σ0 := by
    intro u hfr hF
    unfold fX11_isLetter_b42 at hF
    cases hF; exact hfr
  have hB24 : ∀ (x0 : Int32) (u : q_St), Fr wi_X11_isLetter wa_X11_isLetter wj_X11_isLetter u0 u → fX11_isLetter_b24 N x0 u = some (r0, σ0) → Fr wi_X11_isLetter wa_X11_isLetter wj_X11_isLetter u0 σ0 := by
    intro x0 u hfr hF
    unfold fX11_isLetter_b24 at hF
    rcases fr_if hF with hF | hF
    · exact hB42 u hfr hF
    · rcases fr_if hF with hF | hF
      · exact hB42 u hfr hF
      · rcases fr_if hF with hF | hF
        · exact hB42 u hfr hF
        · cases hF; exact hfr
  have hB12 : ∀ (x0 : Int32) (u : q_St), Fr wi_X11_isLetter wa_X11_isLetter wj_X11_isLetter u0 u → fX11_isLetter_b12 N x0 u = some (r0, σ0) → Fr wi_X11_isLetter wa_X11_isLetter wj_X11_isLetter u0 σ0 := by
    intro x0 u hfr hF
    unfold fX11_isLetter_b12 at hF
    rcases fr_if hF with hF | hF
    · exact hB24 x0 u hfr hF
    · rcases fr_if hF with hF | hF
      · exact hB42 u hfr hF
      · exact hB24 x0 u hfr hF
  unfold fX11_isLetter at hF
  have hfr := Fr.rf wi_X11_isLetter wa_X11_isLetter wj_X11_isLetter u0
  rcases fr_if hF with hF | hF
  · exact hB12 o0 u0 hfr hF
  · rcases fr_if hF with hF | hF
    · exact hB42 u0 hfr hF
    · exact hB12 o0 u0 hfr hF
abbrev wi_X11_isName : List Nat := []
abbrev wa_X11_isName : List Nat := []
abbrev wj_X11_isName : List Nat := []
set_option maxHeartbeats 4000000 in
set_option maxRecDepth 100000 in
theorem fr_X11_isName {N : Nat} {o0 : Int64} {u0 σ0 : q_St} {r0 : Int32} (hF : fX11_isName N o0 u0 = some (r0, σ0)) : Fr wi_X11_isName wa_X11_isName wj_X11_isName u0 σ0 := by
  have hB27 : ∀ (n : Nat) (x0 : Int64) (x2 : Int32) (x3 : Int32) (u : q_St), Fr wi_X11_isName wa_X11_isName wj_X11_isName u0 u → q_lp (fX11_isName_b27 N) (fun _ _ _ _ => none) n x0 x2 x3 u = some (r0, σ0) → Fr wi_X11_isName wa_X11_isName wj_X11_isName u0 σ0 := by
    intro n
    induction n with
    | zero => intro x0 x2 x3 u hfr hF; exact absurd (show (none : Option (Int32 × q_St)) = some _ from hF) (fun h => nomatch h)
    | succ n hi27 =>
      intro x0 x2 x3 u hfr hF
      obtain ⟨ih27, hih⟩ : ∃ q, q = q_lp (fX11_isName_b27 N) (fun _ _ _ _ => none) n := ⟨_, rfl⟩
      rw [← hih] at hi27
      have hF : fX11_isName_b27 N (q_lp (fX11_isName_b27 N) (fun _ _ _ _ => none) n) x0 x2 x3 u = some (r0, σ0) := hF
      rw [← hih] at hF
      clear hih
      unfold fX11_isName_b27 at hF
      rcases fr_if hF with hF | hF
      · rcases fr_if hF with hF | hF
        · cases hF; exact hfr
        · cases hF; exact hfr
      · obtain ⟨r1, u2, hc3, hF⟩ := q_bnd_some hF
        have hfr := hfr.app (fr_X11_letter hc3) (by decide) (by decide) (by decide)
        rcases fr_if hF with hF | hF
        · obtain ⟨v4, hF⟩ := fr_nm hF
          exact hi27 x0 x2 v4 u2 hfr hF
        · cases hF; exact hfr
  have hB25 : ∀ (x0 : Int64) (x2 : Int32) (u : q_St), Fr wi_X11_isName wa_X11_isName wj_X11_isName u0 u → fX11_isName_b25 N x0 x2 u = some (r0, σ0) → Fr wi_X11_isName wa_X11_isName wj_X11_isName u0 σ0 := by
    intro x0 x2 u hfr hF
    unfold fX11_isName_b25 at hF
    exact hB27 N x0 x2 x2 u hfr hF
  have hB2 : ∀ (n : Nat) (x0 : Int64) (x2 : Int32) (u : q_St), Fr wi_X11_isName wa_X11_isName wj_X11_isName u0 u → q_lp (fX11_isName_b2 N) (fun _ _ _ => none) n x0 x2 u = some (r0, σ0) → Fr wi_X11_isName wa_X11_isName wj_X11_isName u0 σ0 := by
    intro n
    induction n with
    | zero => intro x0 x2 u hfr hF; exact absurd (show (none : Option (Int32 × q_St)) = some _ from hF) (fun h => nomatch h)
    | succ n hi2 =>
      intro x0 x2 u hfr hF
      obtain ⟨ih2, hih⟩ : ∃ q, q = q_lp (fX11_isName_b2 N) (fun _ _ _ => none) n := ⟨_, rfl⟩
      rw [← hih] at hi2
      have hF : fX11_isName_b2 N (q_lp (fX11_isName_b2 N) (fun _ _ _ => none) n) x0 x2 u = some (r0, σ0) := hF
      rw [← hih] at hF
      clear hih
      unfold fX11_isName_b2 at hF
      rcases fr_if hF with hF | hF
      · exact hB25 x0 x2 u hfr hF
      · obtain ⟨r5, u6, hc7, hF⟩ := q_bnd_some hF
        have hfr := hfr.app (fr_X11_letter hc7) (by decide) (by decide) (by decide)
        obtain ⟨r8, u9, hc10, hF⟩ := q_bnd_some hF
        have hfr := hfr.app (fr_X11_isLetter hc10) (by decide) (by decide) (by decide)
        rcases fr_if hF with hF | hF
        · exact hB25 x0 x2 u9 hfr hF
        · obtain ⟨v11, hF⟩ := fr_nm hF
          exact hi2 x0 v11 u9 hfr hF
  unfold fX11_isName at hF
  have hfr := Fr.rf wi_X11_isName wa_X11_isName wj_X11_isName u0
  exact hB2 N o0 0 u0 hfr hF
abbrev wi_X11_may : List Nat := []
abbrev wa_X11_may : List Nat := []
abbrev wj_X11_may : List Nat := []
set_option maxHeartbeats 4000000 in
set_option maxRecDepth 100000 in
theorem fr_X11_may {N : Nat} {o1 : Int32} {o2 : Int32} {u0 σ0 : q_St} {r0 : Int32} (hF : fX11_may N o1 o2 u0 = some (r0, σ0)) : Fr wi_X11_may wa_X11_may wj_X11_may u0 σ0 := by
  have hB39 : ∀ (x2 : Int32) (y0 : Int32) (u : q_St), Fr wi_X11_may wa_X11_may wj_X11_may u0 u → fX11_may_b39 N x2 y0 u = some (r0, σ0) → Fr wi_X11_may wa_X11_may wj_X11_may u0 σ0 := by
    intro x2 y0 u hfr hF
    unfold fX11_may_b39 at hF
    rcases fr_if hF with hF | hF
    · cases hF; exact hfr
    · cases hF; exact hfr
  unfold fX11_may at hF
  have hfr := Fr.rf wi_X11_may wa_X11_may wj_X11_may u0
  rcases fr_if hF with hF | hF
  · cases hF; exact hfr
  · obtain ⟨v1, hF⟩ := fr_rd hF
    rcases fr_if hF with hF | hF
    · obtain ⟨v3, hF⟩ := fr_rd hF
      exact hB39 o2 (v3 >>> (3 &&& 31)) u0 hfr hF
    · obtain ⟨v2, hF⟩ := fr_rd hF
      exact hB39 o2 v2 u0 hfr hF
abbrev wi_X11_slots : List Nat := []
abbrev wa_X11_slots : List Nat := []
abbrev wj_X11_slots : List Nat := []
set_option maxHeartbeats 4000000 in
set_option maxRecDepth 100000 in
theorem fr_X11_slots {N : Nat} {o1 : Int32} {u0 σ0 : q_St} {r0 : Int32} (hF : fX11_slots N o1 u0 = some (r0, σ0)) : Fr wi_X11_slots wa_X11_slots wj_X11_slots u0 σ0 := by
  unfold fX11_slots at hF
  have hfr := Fr.rf wi_X11_slots wa_X11_slots wj_X11_slots u0
  obtain ⟨v1, hF⟩ := fr_rd hF
  cases hF; exact hfr
abbrev wi_X11_slotOf : List Nat := []
abbrev wa_X11_slotOf : List Nat := []
abbrev wj_X11_slotOf : List Nat := []
set_option maxHeartbeats 4000000 in
set_option maxRecDepth 100000 in
theorem fr_X11_slotOf {N : Nat} {o1 : Int32} {o2 : Int64} {u0 σ0 : q_St} {r0 : Int32} (hF : fX11_slotOf N o1 o2 u0 = some (r0, σ0)) : Fr wi_X11_slotOf wa_X11_slotOf wj_X11_slotOf u0 σ0 := by
  have hB47 : ∀ (ih6 : Int32 → Int64 → Int32 → q_St → Option (Int32 × q_St)) (hi6 : ∀ (x1 : Int32) (x2 : Int64) (x4 : Int32) (u : q_St), Fr wi_X11_slotOf wa_X11_slotOf wj_X11_slotOf u0 u → ih6 x1 x2 x4 u = some (r0, σ0) → Fr wi_X11_slotOf wa_X11_slotOf wj_X11_slotOf u0 σ0), ∀ (x1 : Int32) (x2 : Int64) (x4 : Int32) (u : q_St), Fr wi_X11_slotOf wa_X11_slotOf wj_X11_slotOf u0 u → fX11_slotOf_b47 N ih6 x1 x2 x4 u = some (r0, σ0) → Fr wi_X11_slotOf wa_X11_slotOf wj_X11_slotOf u0 σ0 := by
    intro ih6 hi6 x1 x2 x4 u hfr hF
    unfold fX11_slotOf_b47 at hF
    obtain ⟨v6, hF⟩ := fr_nm hF
    exact hi6 x1 x2 v6 u hfr hF
  have hB6 : ∀ (n : Nat) (x1 : Int32) (x2 : Int64) (x4 : Int32) (u : q_St), Fr wi_X11_slotOf wa_X11_slotOf wj_X11_slotOf u0 u → q_lp (fX11_slotOf_b6 N) (fun _ _ _ _ => none) n x1 x2 x4 u = some (r0, σ0) → Fr wi_X11_slotOf wa_X11_slotOf wj_X11_slotOf u0 σ0 := by
    intro n
    induction n with
    | zero => intro x1 x2 x4 u hfr hF; exact absurd (show (none : Option (Int32 × q_St)) = some _ from hF) (fun h => nomatch h)
    | succ n hi6 =>
      intro x1 x2 x4 u hfr hF
      obtain ⟨ih6, hih⟩ : ∃ q, q = q_lp (fX11_slotOf_b6 N) (fun _ _ _ _ => none) n := ⟨_, rfl⟩
      rw [← hih] at hi6
      have hF : fX11_slotOf_b6 N (q_lp (fX11_slotOf_b6 N) (fun _ _ _ _ => none) n) x1 x2 x4 u = some (r0, σ0) := hF
      rw [← hih] at hF
      clear hih
      unfold fX11_slotOf_b6 at hF
      obtain ⟨r2, u3, hc4, hF⟩ := q_bnd_some hF
      have hfr := hfr.app (fr_X11_slots hc4) (by decide) (by decide) (by decide)
      rcases fr_if hF with hF | hF
      · cases hF; exact hfr
      · obtain ⟨v5, hF⟩ := fr_rd hF
        rcases fr_if hF with hF | hF
        · exact hB47 ih6 hi6 x1 x2 x4 u3 hfr hF
        · obtain ⟨v7, hF⟩ := fr_rd hF
          rcases fr_if hF with hF | hF
          · cases hF; exact hfr
          · exact hB47 ih6 hi6 x1 x2 x4 u3 hfr hF
  unfold fX11_slotOf at hF
  have hfr := Fr.rf wi_X11_slotOf wa_X11_slotOf wj_X11_slotOf u0
  obtain ⟨v1, hF⟩ := fr_nm hF
  exact hB6 N o1 o2 v1 u0 hfr hF
abbrev wi_X11_refusal : List Nat := []
abbrev wa_X11_refusal : List Nat := []
abbrev wj_X11_refusal : List Nat := []
set_option maxHeartbeats 4000000 in
set_option maxRecDepth 100000 in
theorem fr_X11_refusal {N : Nat} {o1 : Int32} {o2 : Int64} {u0 σ0 : q_St} {r0 : Int32} (hF : fX11_refusal N o1 o2 u0 = some (r0, σ0)) : Fr wi_X11_refusal wa_X11_refusal wj_X11_refusal u0 σ0 := by
  unfold fX11_refusal at hF
  have hfr := Fr.rf wi_X11_refusal wa_X11_refusal wj_X11_refusal u0
  obtain ⟨r1, u2, hc3, hF⟩ := q_bnd_some hF
  have hfr := hfr.app (fr_X11_isDirectory hc3) (by decide) (by decide) (by decide)
  rcases fr_if hF with hF | hF
  · cases hF; exact hfr
  · obtain ⟨r4, u5, hc6, hF⟩ := q_bnd_some hF
    have hfr := hfr.app (fr_X11_isName hc6) (by decide) (by decide) (by decide)
    rcases fr_if hF with hF | hF
    · cases hF; exact hfr
    · obtain ⟨r7, u8, hc9, hF⟩ := q_bnd_some hF
      have hfr := hfr.app (fr_X11_may hc9) (by decide) (by decide) (by decide)
      rcases fr_if hF with hF | hF
      · cases hF; exact hfr
      · obtain ⟨r10, u11, hc12, hF⟩ := q_bnd_some hF
        have hfr := hfr.app (fr_X11_slotOf hc12) (by decide) (by decide) (by decide)
        rcases fr_if hF with hF | hF
        · cases hF; exact hfr
        · cases hF; exact hfr
abbrev wi_X11_freeNode : List Nat := []
abbrev wa_X11_freeNode : List Nat := []
abbrev wj_X11_freeNode : List Nat := []
set_option maxHeartbeats 4000000 in
set_option maxRecDepth 100000 in
theorem fr_X11_freeNode {N : Nat}  {u0 σ0 : q_St} {r0 : Int32} (hF : fX11_freeNode N u0 = some (r0, σ0)) : Fr wi_X11_freeNode wa_X11_freeNode wj_X11_freeNode u0 σ0 := by
  have hB2 : ∀ (n : Nat) (x1 : Int32) (u : q_St), Fr wi_X11_freeNode wa_X11_freeNode wj_X11_freeNode u0 u → q_lp (fX11_freeNode_b2 N) (fun _ _ => none) n x1 u = some (r0, σ0) → Fr wi_X11_freeNode wa_X11_freeNode wj_X11_freeNode u0 σ0 := by
    intro n
    induction n with
    | zero => intro x1 u hfr hF; exact absurd (show (none : Option (Int32 × q_St)) = some _ from hF) (fun h => nomatch h)
    | succ n hi2 =>
      intro x1 u hfr hF
      obtain ⟨ih2, hih⟩ : ∃ q, q = q_lp (fX11_freeNode_b2 N) (fun _ _ => none) n := ⟨_, rfl⟩
      rw [← hih] at hi2
      have hF : fX11_freeNode_b2 N (q_lp (fX11_freeNode_b2 N) (fun _ _ => none) n) x1 u = some (r0, σ0) := hF
      rw [← hih] at hF
      clear hih
      unfold fX11_freeNode_b2 at hF
      rcases fr_if hF with hF | hF
      · cases hF; exact hfr
      · obtain ⟨v1, hF⟩ := fr_rd hF
        rcases fr_if hF with hF | hF
        · cases hF; exact hfr
        · obtain ⟨v2, hF⟩ := fr_nm hF
          exact hi2 v2 u hfr hF
  unfold fX11_freeNode at hF
  have hfr := Fr.rf wi_X11_freeNode wa_X11_freeNode wj_X11_freeNode u0
  exact hB2 N 0 u0 hfr hF
abbrev wi_X11_freeSlot : List Nat := []
abbrev wa_X11_freeSlot : List Nat := []
abbrev wj_X11_freeSlot : List Nat := []
set_option maxHeartbeats 4000000 in
set_option maxRecDepth 100000 in
theorem fr_X11_freeSlot {N : Nat} {o1 : Int32} {u0 σ0 : q_St} {r0 : Int32} (hF : fX11_freeSlot N o1 u0 = some (r0, σ0)) : Fr wi_X11_freeSlot wa_X11_freeSlot wj_X11_freeSlot u0 σ0 := by
  have hB5 : ∀ (n : Nat) (x1 : Int32) (x2 : Int32) (u : q_St), Fr wi_X11_freeSlot wa_X11_freeSlot wj_X11_freeSlot u0 u → q_lp (fX11_freeSlot_b5 N) (fun _ _ _ => none) n x1 x2 u = some (r0, σ0) → Fr wi_X11_freeSlot wa_X11_freeSlot wj_X11_freeSlot u0 σ0 := by
    intro n
    induction n with
    | zero => intro x1 x2 u hfr hF; exact absurd (show (none : Option (Int32 × q_St)) = some _ from hF) (fun h => nomatch h)
    | succ n hi5 =>
      intro x1 x2 u hfr hF
      obtain ⟨ih5, hih⟩ : ∃ q, q = q_lp (fX11_freeSlot_b5 N) (fun _ _ _ => none) n := ⟨_, rfl⟩
      rw [← hih] at hi5
      have hF : fX11_freeSlot_b5 N (q_lp (fX11_freeSlot_b5 N) (fun _ _ _ => none) n) x1 x2 u = some (r0, σ0) := hF
      rw [← hih] at hF
      clear hih
      unfold fX11_freeSlot_b5 at hF
      obtain ⟨r2, u3, hc4, hF⟩ := q_bnd_some hF
      have hfr := hfr.app (fr_X11_slots hc4) (by decide) (by decide) (by decide)
      rcases fr_if hF with hF | hF
      · cases hF; exact hfr
      · obtain ⟨v5, hF⟩ := fr_rd hF
        rcases fr_if hF with hF | hF
        · cases hF; exact hfr
        · obtain ⟨v6, hF⟩ := fr_nm hF
          exact hi5 x1 v6 u3 hfr hF
  unfold fX11_freeSlot at hF
  have hfr := Fr.rf wi_X11_freeSlot wa_X11_freeSlot wj_X11_freeSlot u0
  obtain ⟨v1, hF⟩ := fr_nm hF
  exact hB5 N o1 v1 u0 hfr hF
abbrev wi_X11_freeBlock : List Nat := []
abbrev wa_X11_freeBlock : List Nat := []
abbrev wj_X11_freeBlock : List Nat := []
set_option maxHeartbeats 4000000 in
set_option maxRecDepth 100000 in
theorem fr_X11_freeBlock {N : Nat} {o1 : Int32} {u0 σ0 : q_St} {r0 : Int32} (hF : fX11_freeBlock N o1 u0 = some (r0, σ0)) : Fr wi_X11_freeBlock wa_X11_freeBlock wj_X11_freeBlock u0 σ0 := by
  have hB34 : ∀ (ih5 : Int32 → Int32 → q_St → Option (Int32 × q_St)) (hi5 : ∀ (x1 : Int32) (x2 : Int32) (u : q_St), Fr wi_X11_freeBlock wa_X11_freeBlock wj_X11_freeBlock u0 u → ih5 x1 x2 u = some (r0, σ0) → Fr wi_X11_freeBlock wa_X11_freeBlock wj_X11_freeBlock u0 σ0), ∀ (x1 : Int32) (x2 : Int32) (u : q_St), Fr wi_X11_freeBlock wa_X11_freeBlock wj_X11_freeBlock u0 u → fX11_freeBlock_b34 N ih5 x1 x2 u = some (r0, σ0) → Fr wi_X11_freeBlock wa_X11_freeBlock wj_X11_freeBlock u0 σ0 := by
    intro ih5 hi5 x1 x2 u hfr hF
    unfold fX11_freeBlock_b34 at hF
    obtain ⟨v3, hF⟩ := fr_nm hF
    exact hi5 x1 v3 u hfr hF
  have hB5 : ∀ (n : Nat) (x1 : Int32) (x2 : Int32) (u : q_St), Fr wi_X11_freeBlock wa_X11_freeBlock wj_X11_freeBlock u0 u → q_lp (fX11_freeBlock_b5 N) (fun _ _ _ => none) n x1 x2 u = some (r0, σ0) → Fr wi_X11_freeBlock wa_X11_freeBlock wj_X11_freeBlock u0 σ0 := by
    intro n
    induction n with
    | zero => intro x1 x2 u hfr hF; exact absurd (show (none : Option (Int32 × q_St)) = some _ from hF) (fun h => nomatch h)
    | succ n hi5 =>
      intro x1 x2 u hfr hF
      obtain ⟨ih5, hih⟩ : ∃ q, q = q_lp (fX11_freeBlock_b5 N) (fun _ _ _ => none) n := ⟨_, rfl⟩
      rw [← hih] at hi5
      have hF : fX11_freeBlock_b5 N (q_lp (fX11_freeBlock_b5 N) (fun _ _ _ => none) n) x1 x2 u = some (r0, σ0) := hF
      rw [← hih] at hF
      clear hih
      unfold fX11_freeBlock_b5 at hF
      rcases fr_if hF with hF | hF
      · cases hF; exact hfr
      · obtain ⟨v2, hF⟩ := fr_rd hF
        rcases fr_if hF with hF | hF
        · have hF := (q_dv_some hF).2
          rcases fr_if hF with hF | hF
          · exact hB34 ih5 hi5 x1 x2 u hfr hF
          · cases hF; exact hfr
        · exact hB34 ih5 hi5 x1 x2 u hfr hF
  unfold fX11_freeBlock at hF
  have hfr := Fr.rf wi_X11_freeBlock wa_X11_freeBlock wj_X11_freeBlock u0
  obtain ⟨v1, hF⟩ := fr_nm hF
  exact hB5 N o1 v1 u0 hfr hF
abbrev wi_X11_hasRoom : List Nat := []
abbrev wa_X11_hasRoom : List Nat := []
abbrev wj_X11_hasRoom : List Nat := []
set_option maxHeartbeats 4000000 in
set_option maxRecDepth 100000 in
theorem fr_X11_hasRoom {N : Nat} {o1 : Int32} {o2 : Int32} {u0 σ0 : q_St} {r0 : Int32} (hF : fX11_hasRoom N o1 o2 u0 = some (r0, σ0)) : Fr wi_X11_hasRoom wa_X11_hasRoom wj_X11_hasRoom u0 σ0 := by
  have hB29 : ∀ (u : q_St), Fr wi_X11_hasRoom wa_X11_hasRoom wj_X11_hasRoom u0 u → fX11_hasRoom_b29 N u = some (r0, σ0) → Fr wi_X11_hasRoom wa_X11_hasRoom wj_X11_hasRoom u0 σ0 := by
    intro u hfr hF
    unfold fX11_hasRoom_b29 at hF
    cases hF; exact hfr
  unfold fX11_hasRoom at hF
  have hfr := Fr.rf wi_X11_hasRoom wa_X11_hasRoom wj_X11_hasRoom u0
  obtain ⟨r1, u2, hc3, hF⟩ := q_bnd_some hF
  have hfr := hfr.app (fr_X11_freeSlot hc3) (by decide) (by decide) (by decide)
  rcases fr_if hF with hF | hF
  · obtain ⟨v4, hF⟩ := fr_rd hF
    rcases fr_if hF with hF | hF
    · cases hF; exact hfr
    · obtain ⟨r5, u6, hc7, hF⟩ := q_bnd_some hF
      have hfr := hfr.app (fr_X11_freeBlock hc7) (by decide) (by decide) (by decide)
      rcases fr_if hF with hF | hF
      · cases hF; exact hfr
      · exact hB29 u6 hfr hF
  · exact hB29 u2 hfr hF
abbrev wi_X11_soilSlot : List Nat := [25]
abbrev wa_X11_soilSlot : List Nat := [33]
abbrev wj_X11_soilSlot : List Nat := []
set_option maxHeartbeats 4000000 in
set_option maxRecDepth 100000 in
theorem fr_X11_soilSlot {N : Nat} {o1 : Int32} {u0 σ0 : q_St} {r0 : Unit} (hF : fX11_soilSlot N o1 u0 = some (r0, σ0)) : Fr wi_X11_soilSlot wa_X11_soilSlot wj_X11_soilSlot u0 σ0 := by
  unfold fX11_soilSlot at hF
  have hfr := Fr.rf wi_X11_soilSlot wa_X11_soilSlot wj_X11_soilSlot u0
  obtain ⟨v1, hF⟩ := fr_nm hF
  obtain ⟨v2, hF⟩ := fr_rd hF
  obtain ⟨r3, u4, hc5, hF⟩ := q_bnd_some hF
  have hfr := hfr.app (fr_X11_soil hc5) (by decide) (by decide) (by decide)
  cases hF; exact hfr
abbrev wi_X11_soilMap : List Nat := [25]
abbrev wa_X11_soilMap : List Nat := [33]
abbrev wj_X11_soilMap : List Nat := []
set_option maxHeartbeats 4000000 in
set_option maxRecDepth 100000 in
theorem fr_X11_soilMap {N : Nat} {o1 : Int32} {u0 σ0 : q_St} {r0 : Unit} (hF : fX11_soilMap N o1 u0 = some (r0, σ0)) : Fr wi_X11_soilMap wa_X11_soilMap wj_X11_soilMap u0 σ0 := by
  unfold fX11_soilMap at hF
  have hfr := Fr.rf wi_X11_soilMap wa_X11_soilMap wj_X11_soilMap u0
  obtain ⟨r1, u2, hc3, hF⟩ := q_bnd_some hF
  have hfr := hfr.app (fr_X11_soil hc3) (by decide) (by decide) (by decide)
  cases hF; exact hfr
abbrev wi_X11_takeBlock : List Nat := [25]
abbrev wa_X11_takeBlock : List Nat := [17, 18, 33]
abbrev wj_X11_takeBlock : List Nat := []
set_option maxHeartbeats 4000000 in
set_option maxRecDepth 100000 in
theorem fr_X11_takeBlock {N : Nat} {o1 : Int32} {u0 σ0 : q_St} {r0 : Int32} (hF : fX11_takeBlock N o1 u0 = some (r0, σ0)) : Fr wi_X11_takeBlock wa_X11_takeBlock wj_X11_takeBlock u0 σ0 := by
  have hB28 : ∀ (n : Nat) (x2 : Int32) (x3 : Int32) (u : q_St), Fr wi_X11_takeBlock wa_X11_takeBlock wj_X11_takeBlock u0 u → q_lp (fX11_takeBlock_b28 N) (fun _ _ _ => none) n x2 x3 u = some (r0, σ0) → Fr wi_X11_takeBlock wa_X11_takeBlock wj_X11_takeBlock u0 σ0 := by
    intro n
    induction n with
    | zero => intro x2 x3 u hfr hF; exact absurd (show (none : Option (Int32 × q_St)) = some _ from hF) (fun h => nomatch h)
    | succ n hi28 =>
      intro x2 x3 u hfr hF
      obtain ⟨ih28, hih⟩ : ∃ q, q = q_lp (fX11_takeBlock_b28 N) (fun _ _ _ => none) n := ⟨_, rfl⟩
      rw [← hih] at hi28
      have hF : fX11_takeBlock_b28 N (q_lp (fX11_takeBlock_b28 N) (fun _ _ _ => none) n) x2 x3 u = some (r0, σ0) := hF
      rw [← hih] at hF
      clear hih
      unfold fX11_takeBlock_b28 at hF
      rcases fr_if hF with hF | hF
      · cases hF; exact hfr
      · obtain ⟨u12, hfr, hF⟩ := fr_wa hfr hF (by decide)
        obtain ⟨v13, hF⟩ := fr_nm hF
        exact hi28 x2 v13 u12 hfr hF
  unfold fX11_takeBlock at hF
  have hfr := Fr.rf wi_X11_takeBlock wa_X11_takeBlock wj_X11_takeBlock u0
  obtain ⟨r1, u2, hc3, hF⟩ := q_bnd_some hF
  have hfr := hfr.app (fr_X11_freeBlock hc3) (by decide) (by decide) (by decide)
  obtain ⟨u4, hfr, hF⟩ := fr_wa hfr hF (by decide)
  obtain ⟨r5, u6, hc7, hF⟩ := q_bnd_some hF
  have hfr := hfr.app (fr_X11_soilMap hc7) (by decide) (by decide) (by decide)
  obtain ⟨r8, u9, hc10, hF⟩ := q_bnd_some hF
  have hfr := hfr.app (fr_X11_soil hc10) (by decide) (by decide) (by decide)
  obtain ⟨v11, hF⟩ := fr_nm hF
  exact hB28 N r1 v11 u9 hfr hF
abbrev wi_X11_enter : List Nat := [25]
abbrev wa_X11_enter : List Nat := [8, 13, 14, 17, 18, 33]
abbrev wj_X11_enter : List Nat := [0]
set_option maxHeartbeats 4000000 in
set_option maxRecDepth 100000 in
theorem fr_X11_enter {N : Nat} {o1 : Int32} {o2 : Int64} {o4 : Int32} {o5 : Int32} {u0 σ0 : q_St} {r0 : Unit} (hF : fX11_enter N o1 o2 o4 o5 u0 = some (r0, σ0)) : Fr wi_X11_enter wa_X11_enter wj_X11_enter u0 σ0 := by
  have hB89 : ∀ (x1 : Int32) (x2 : Int64) (x4 : Int32) (u : q_St), Fr wi_X11_enter wa_X11_enter wj_X11_enter u0 u → fX11_enter_b89 N x1 x2 x4 u = some (r0, σ0) → Fr wi_X11_enter wa_X11_enter wj_X11_enter u0 σ0 := by
    intro x1 x2 x4 u hfr hF
    unfold fX11_enter_b89 at hF
    obtain ⟨r4, u5, hc6, hF⟩ := q_bnd_some hF
    have hfr := hfr.app (fr_X11_freeSlot hc6) (by decide) (by decide) (by decide)
    obtain ⟨u7, hfr, hF⟩ := fr_wa hfr hF (by decide)
    obtain ⟨u8, hfr, hF⟩ := fr_wj hfr hF (by decide)
    obtain ⟨r9, u10, hc11, hF⟩ := q_bnd_some hF
    have hfr := hfr.app (fr_X11_soilSlot hc11) (by decide) (by decide) (by decide)
    cases hF; exact hfr
  have hB55 : ∀ (n : Nat) (x1 : Int32) (x2 : Int64) (x4 : Int32) (x6 : Int32) (u : q_St), Fr wi_X11_enter wa_X11_enter wj_X11_enter u0 u → q_lp (fX11_enter_b55 N) (fun _ _ _ _ _ => none) n x1 x2 x4 x6 u = some (r0, σ0) → Fr wi_X11_enter wa_X11_enter wj_X11_enter u0 σ0 := by
    intro n
    induction n with
    | zero => intro x1 x2 x4 x6 u hfr hF; exact absurd (show (none : Option (Unit × q_St)) = some _ from hF) (fun h => nomatch h)
    | succ n hi55 =>
      intro x1 x2 x4 x6 u hfr hF
      obtain ⟨ih55, hih⟩ : ∃ q, q = q_lp (fX11_enter_b55 N) (fun _ _ _ _ _ => none) n := ⟨_, rfl⟩
      rw [← hih] at hi55
      have hF : fX11_enter_b55 N (q_lp (fX11_enter_b55 N) (fun _ _ _ _ _ => none) n) x1 x2 x4 x6 u = some (r0, σ0) := hF
      rw [← hih] at hF
      clear hih
      unfold fX11_enter_b55 at hF
      obtain ⟨r23, u24, hc25, hF⟩ := q_bnd_some hF
      have hfr := hfr.app (fr_X11_slots hc25) (by decide) (by decide) (by decide)
      rcases fr_if hF with hF | hF
      · obtain ⟨r26, u27, hc28, hF⟩ := q_bnd_some hF
        have hfr := hfr.app (fr_X11_soilNode hc28) (by decide) (by decide) (by decide)
        exact hB89 x1 x2 x4 u27 hfr hF
      · obtain ⟨u29, hfr, hF⟩ := fr_wa hfr hF (by decide)
        obtain ⟨v30, hF⟩ := fr_nm hF
        exact hi55 x1 x2 x4 v30 u29 hfr hF
  unfold fX11_enter at hF
  have hfr := Fr.rf wi_X11_enter wa_X11_enter wj_X11_enter u0
  obtain ⟨r1, u2, hc3, hF⟩ := q_bnd_some hF
  have hfr := hfr.app (fr_X11_freeSlot hc3) (by decide) (by decide) (by decide)
  rcases fr_if hF with hF | hF
  · obtain ⟨v12, hF⟩ := fr_rd hF
    obtain ⟨r13, u14, hc15, hF⟩ := q_bnd_some hF
    have hfr := hfr.app (fr_X11_takeBlock hc15) (by decide) (by decide) (by decide)
    obtain ⟨u16, hfr, hF⟩ := fr_wa hfr hF (by decide)
    obtain ⟨v17, hF⟩ := fr_rd hF
    obtain ⟨u18, hfr, hF⟩ := fr_wa hfr hF (by decide)
    obtain ⟨r19, u20, hc21, hF⟩ := q_bnd_some hF
    have hfr := hfr.app (fr_X11_slots hc21) (by decide) (by decide) (by decide)
    obtain ⟨v22, hF⟩ := fr_nm hF
    exact hB55 N o1 o2 o4 v22 u20 hfr hF
  · exact hB89 o1 o2 o4 u2 hfr hF
abbrev wi_X11_born : List Nat := [25]
abbrev wa_X11_born : List Nat := [5, 6, 7, 8, 11, 12, 15, 33]
abbrev wj_X11_born : List Nat := []
set_option maxHeartbeats 4000000 in
set_option maxRecDepth 100000 in
theorem fr_X11_born {N : Nat} {o1 : Int32} {o2 : Int32} {o3 : Int32} {u0 σ0 : q_St} {r0 : Int32} (hF : fX11_born N o1 o2 o3 u0 = some (r0, σ0)) : Fr wi_X11_born wa_X11_born wj_X11_born u0 σ0 := by
  have hB71 : ∀ (x1 : Int32) (y0 : Int32) (y1 : Int32) (u : q_St), Fr wi_X11_born wa_X11_born wj_X11_born u0 u → fX11_born_b71 N x1 y0 y1 u = some (r0, σ0) → Fr wi_X11_born wa_X11_born wj_X11_born u0 σ0 := by
    intro x1 y0 y1 u hfr hF
    unfold fX11_born_b71 at hF
    obtain ⟨u7, hfr, hF⟩ := fr_wa hfr hF (by decide)
    obtain ⟨r8, u9, hc10, hF⟩ := q_bnd_some hF
    have hfr := hfr.app (fr_X11_soilNode hc10) (by decide) (by decide) (by decide)
    cases hF; exact hfr
  have hB29 : ∀ (x1 : Int32) (x2 : Int32) (y0 : Int32) (y1 : Int32) (u : q_St), Fr wi_X11_born wa_X11_born wj_X11_born u0 u → fX11_born_b29 N x1 x2 y0 y1 u = some (r0, σ0) → Fr wi_X11_born wa_X11_born wj_X11_born u0 σ0 := by
    intro x1 x2 y0 y1 u hfr hF
    unfold fX11_born_b29 at hF
    obtain ⟨u3, hfr, hF⟩ := fr_wa hfr hF (by decide)
    obtain ⟨u4, hfr, hF⟩ := fr_wa hfr hF (by decide)
    obtain ⟨u5, hfr, hF⟩ := fr_wa hfr hF (by decide)
    obtain ⟨u6, hfr, hF⟩ := fr_wa hfr hF (by decide)
    rcases fr_if hF with hF | hF
    · exact hB71 x1 61 x1 u6 hfr hF
    · exact hB71 x1 52 x1 u6 hfr hF
  unfold fX11_born at hF
  have hfr := Fr.rf wi_X11_born wa_X11_born wj_X11_born u0
  obtain ⟨u1, hfr, hF⟩ := fr_wa hfr hF (by decide)
  obtain ⟨u2, hfr, hF⟩ := fr_wa hfr hF (by decide)
  rcases fr_if hF with hF | hF
  · exact hB29 o1 o2 o3 o1 u2 hfr hF
  · exact hB29 o1 o2 0 o1 u2 hfr hF
abbrev wi_X11_create : List Nat := [9, 10, 11, 12, 13, 14, 15, 16, 17, 18, 19, 20, 21, 22, 23, 25, 26]
abbrev wa_X11_create : List Nat := [0, 1, 2, 3, 4, 5, 6, 7, 8, 11, 12, 13, 14, 15, 17, 18, 19, 20, 21, 22, 23, 24, 25, 26, 27, 28, 29, 30, 31, 32, 33, 34]
abbrev wj_X11_create : List Nat := [0, 1]
set_option maxHeartbeats 4000000 in
set_option maxRecDepth 100000 in
theorem fr_X11_create {N : Nat} {o1 : Int32} {o2 : Int64} {o4 : Int32} {u0 σ0 : q_St} {r0 : Int32} (hF : fX11_create N o1 o2 o4 u0 = some (r0, σ0)) : Fr wi_X11_create wa_X11_create wj_X11_create u0 σ0 := by
  unfold fX11_create at hF
  have hfr := Fr.rf wi_X11_create wa_X11_create wj_X11_create u0
  obtain ⟨r1, u2, hc3, hF⟩ := q_bnd_some hF
  have hfr := hfr.app (fr_X11_begins hc3) (by decide) (by decide) (by decide)
  rcases fr_if hF with hF | hF
  · cases hF; exact hfr
  · obtain ⟨r4, u5, hc6, hF⟩ := q_bnd_some hF
    have hfr := hfr.app (fr_X11_refusal hc6) (by decide) (by decide) (by decide)
    rcases fr_if hF with hF | hF
    · obtain ⟨r7, u8, hc9, hF⟩ := q_bnd_some hF
      have hfr := hfr.app (fr_X11_freeNode hc9) (by decide) (by decide) (by decide)
      rcases fr_if hF with hF | hF
      · cases hF; exact hfr
      · obtain ⟨r10, u11, hc12, hF⟩ := q_bnd_some hF
        have hfr := hfr.app (fr_X11_hasRoom hc12) (by decide) (by decide) (by decide)
        rcases fr_if hF with hF | hF
        · cases hF; exact hfr
        · obtain ⟨r13, u14, hc15, hF⟩ := q_bnd_some hF
          have hfr := hfr.app (fr_X11_enter hc15) (by decide) (by decide) (by decide)
          obtain ⟨r16, u17, hc18, hF⟩ := q_bnd_some hF
          have hfr := hfr.app (fr_X11_born hc18) (by decide) (by decide) (by decide)
          cases hF; exact hfr
    · cases hF; exact hfr
abbrev wi_X11_make : List Nat := [9, 10, 11, 12, 13, 14, 15, 16, 17, 18, 19, 20, 21, 22, 23, 25, 26]
abbrev wa_X11_make : List Nat := [0, 1, 2, 3, 4, 5, 6, 7, 8, 11, 12, 13, 14, 15, 17, 18, 19, 20, 21, 22, 23, 24, 25, 26, 27, 28, 29, 30, 31, 32, 33, 34]
abbrev wj_X11_make : List Nat := [0, 1]
set_option maxHeartbeats 4000000 in
set_option maxRecDepth 100000 in
theorem fr_X11_make {N : Nat} {o1 : Int32} {o2 : Int64} {u0 σ0 : q_St} {r0 : Int32} (hF : fX11_make N o1 o2 u0 = some (r0, σ0)) : Fr wi_X11_make wa_X11_make wj_X11_make u0 σ0 := by
  unfold fX11_make at hF
  have hfr := Fr.rf wi_X11_make wa_X11_make wj_X11_make u0
  obtain ⟨r1, u2, hc3, hF⟩ := q_bnd_some hF
  have hfr := hfr.app (fr_X11_create hc3) (by decide) (by decide) (by decide)
  cases hF; exact hfr
abbrev wi_X11_dir : List Nat := [9, 10, 11, 12, 13, 14, 15, 16, 17, 18, 19, 20, 21, 22, 23, 25, 26]
abbrev wa_X11_dir : List Nat := [0, 1, 2, 3, 4, 5, 6, 7, 8, 11, 12, 13, 14, 15, 17, 18, 19, 20, 21, 22, 23, 24, 25, 26, 27, 28, 29, 30, 31, 32, 33, 34]
abbrev wj_X11_dir : List Nat := [0, 1]
set_option maxHeartbeats 4000000 in
set_option maxRecDepth 100000 in
theorem fr_X11_dir {N : Nat} {o1 : Int32} {o2 : Int64} {u0 σ0 : q_St} {r0 : Int32} (hF : fX11_dir N o1 o2 u0 = some (r0, σ0)) : Fr wi_X11_dir wa_X11_dir wj_X11_dir u0 σ0 := by
  unfold fX11_dir at hF
  have hfr := Fr.rf wi_X11_dir wa_X11_dir wj_X11_dir u0
  obtain ⟨r1, u2, hc3, hF⟩ := q_bnd_some hF
  have hfr := hfr.app (fr_X11_create hc3) (by decide) (by decide) (by decide)
  cases hF; exact hfr
abbrev wi_X11_point : List Nat := [9, 10, 11, 12, 13, 14, 15, 16, 17, 18, 19, 20, 21, 22, 23, 25, 26, 27]
abbrev wa_X11_point : List Nat := [0, 1, 2, 3, 4, 5, 6, 7, 8, 11, 12, 13, 14, 15, 16, 17, 18, 19, 20, 21, 22, 23, 24, 25, 26, 27, 28, 29, 30, 31, 32, 33, 34]
abbrev wj_X11_point : List Nat := [0, 1]
set_option maxHeartbeats 4000000 in
set_option maxRecDepth 100000 in
theorem fr_X11_point {N : Nat} {o1 : Int32} {o2 : Int64} {u0 σ0 : q_St} {r0 : Int32} (hF : fX11_point N o1 o2 u0 = some (r0, σ0)) : Fr wi_X11_point wa_X11_point wj_X11_point u0 σ0 := by
  have hB106 : ∀ (n : Nat) (x4 : Int32) (x6 : Int32) (x7 : Int32) (u : q_St), Fr wi_X11_point wa_X11_point wj_X11_point u0 u → q_lp (fX11_point_b106 N) (fun _ _ _ _ => none) n x4 x6 x7 u = some (r0, σ0) → Fr wi_X11_point wa_X11_point wj_X11_point u0 σ0 := by
    intro n
    induction n with
    | zero => intro x4 x6 x7 u hfr hF; exact absurd (show (none : Option (Int32 × q_St)) = some _ from hF) (fun h => nomatch h)
    | succ n hi106 =>
      intro x4 x6 x7 u hfr hF
      obtain ⟨ih106, hih⟩ : ∃ q, q = q_lp (fX11_point_b106 N) (fun _ _ _ _ => none) n := ⟨_, rfl⟩
      rw [← hih] at hi106
      have hF : fX11_point_b106 N (q_lp (fX11_point_b106 N) (fun _ _ _ _ => none) n) x4 x6 x7 u = some (r0, σ0) := hF
      rw [← hih] at hF
      clear hih
      unfold fX11_point_b106 at hF
      rcases fr_if hF with hF | hF
      · cases hF; exact hfr
      · obtain ⟨v22, hF⟩ := fr_rd hF
        obtain ⟨u23, hfr, hF⟩ := fr_wa hfr hF (by decide)
        obtain ⟨v24, hF⟩ := fr_nm hF
        exact hi106 x4 x6 v24 u23 hfr hF
  unfold fX11_point at hF
  have hfr := Fr.rf wi_X11_point wa_X11_point wj_X11_point u0
  obtain ⟨v1, hF⟩ := fr_nm hF
  obtain ⟨u2, hfr, hF⟩ := fr_si hfr hF (by decide)
  obtain ⟨r3, u4, hc5, hF⟩ := q_bnd_some hF
  have hfr := hfr.app (fr_X11_begins hc5) (by decide) (by decide) (by decide)
  rcases fr_if hF with hF | hF
  · cases hF; exact hfr
  · obtain ⟨r6, u7, hc8, hF⟩ := q_bnd_some hF
    have hfr := hfr.app (fr_X11_refusal hc8) (by decide) (by decide) (by decide)
    rcases fr_if hF with hF | hF
    · rcases fr_if hF with hF | hF
      · cases hF; exact hfr
      · rcases fr_if hF with hF | hF
        · obtain ⟨r9, u10, hc11, hF⟩ := q_bnd_some hF
          have hfr := hfr.app (fr_X11_freeNode hc11) (by decide) (by decide) (by decide)
          rcases fr_if hF with hF | hF
          · cases hF; exact hfr
          · obtain ⟨r12, u13, hc14, hF⟩ := q_bnd_some hF
            have hfr := hfr.app (fr_X11_hasRoom hc14) (by decide) (by decide) (by decide)
            rcases fr_if hF with hF | hF
            · cases hF; exact hfr
            · obtain ⟨r15, u16, hc17, hF⟩ := q_bnd_some hF
              have hfr := hfr.app (fr_X11_enter hc17) (by decide) (by decide) (by decide)
              obtain ⟨r18, u19, hc20, hF⟩ := q_bnd_some hF
              have hfr := hfr.app (fr_X11_born hc20) (by decide) (by decide) (by decide)
              obtain ⟨u21, hfr, hF⟩ := fr_wa hfr hF (by decide)
              exact hB106 N v1 r9 0 u21 hfr hF
        · cases hF; exact hfr
    · cases hF; exact hfr
abbrev wi_X11_isFile : List Nat := []
abbrev wa_X11_isFile : List Nat := []
abbrev wj_X11_isFile : List Nat := []
set_option maxHeartbeats 4000000 in
set_option maxRecDepth 100000 in
theorem fr_X11_isFile {N : Nat} {o1 : Int32} {o2 : Int32} {u0 σ0 : q_St} {r0 : Int32} (hF : fX11_isFile N o1 o2 u0 = some (r0, σ0)) : Fr wi_X11_isFile wa_X11_isFile wj_X11_isFile u0 σ0 := by
  have hB34 : ∀ (u : q_St), Fr wi_X11_isFile wa_X11_isFile wj_X11_isFile u0 u → fX11_isFile_b34 N u = some (r0, σ0) → Fr wi_X11_isFile wa_X11_isFile wj_X11_isFile u0 σ0 := by
    intro u hfr hF
    unfold fX11_isFile_b34 at hF
    cases hF; exact hfr
  unfold fX11_isFile at hF
  have hfr := Fr.rf wi_X11_isFile wa_X11_isFile wj_X11_isFile u0
  rcases fr_if hF with hF | hF
  · cases hF; exact hfr
  · rcases fr_if hF with hF | hF
    · cases hF; exact hfr
    · obtain ⟨v1, hF⟩ := fr_rd hF
      rcases fr_if hF with hF | hF
      · exact hB34 u0 hfr hF
      · rcases fr_if hF with hF | hF
        · cases hF; exact hfr
        · obtain ⟨v2, hF⟩ := fr_rd hF
          rcases fr_if hF with hF | hF
          · exact hB34 u0 hfr hF
          · cases hF; exact hfr
abbrev wi_X11_link : List Nat := [9, 10, 11, 12, 13, 14, 15, 16, 17, 18, 19, 20, 21, 22, 23, 25, 26]
abbrev wa_X11_link : List Nat := [0, 1, 2, 3, 4, 8, 13, 14, 15, 17, 18, 19, 20, 21, 22, 23, 24, 25, 26, 27, 28, 29, 30, 31, 32, 33, 34]
abbrev wj_X11_link : List Nat := [0, 1]
set_option maxHeartbeats 4000000 in
set_option maxRecDepth 100000 in
theorem fr_X11_link {N : Nat} {o1 : Int32} {o2 : Int64} {o4 : Int32} {u0 σ0 : q_St} {r0 : Int32} (hF : fX11_link N o1 o2 o4 u0 = some (r0, σ0)) : Fr wi_X11_link wa_X11_link wj_X11_link u0 σ0 := by
  unfold fX11_link at hF
  have hfr := Fr.rf wi_X11_link wa_X11_link wj_X11_link u0
  obtain ⟨r1, u2, hc3, hF⟩ := q_bnd_some hF
  have hfr := hfr.app (fr_X11_begins hc3) (by decide) (by decide) (by decide)
  rcases fr_if hF with hF | hF
  · cases hF; exact hfr
  · obtain ⟨r4, u5, hc6, hF⟩ := q_bnd_some hF
    have hfr := hfr.app (fr_X11_isDirectory hc6) (by decide) (by decide) (by decide)
    rcases fr_if hF with hF | hF
    · cases hF; exact hfr
    · obtain ⟨r7, u8, hc9, hF⟩ := q_bnd_some hF
      have hfr := hfr.app (fr_X11_isName hc9) (by decide) (by decide) (by decide)
      rcases fr_if hF with hF | hF
      · cases hF; exact hfr
      · obtain ⟨r10, u11, hc12, hF⟩ := q_bnd_some hF
        have hfr := hfr.app (fr_X11_may hc12) (by decide) (by decide) (by decide)
        rcases fr_if hF with hF | hF
        · cases hF; exact hfr
        · obtain ⟨r13, u14, hc15, hF⟩ := q_bnd_some hF
          have hfr := hfr.app (fr_X11_isFile hc15) (by decide) (by decide) (by decide)
          rcases fr_if hF with hF | hF
          · cases hF; exact hfr
          · obtain ⟨r16, u17, hc18, hF⟩ := q_bnd_some hF
            have hfr := hfr.app (fr_X11_slotOf hc18) (by decide) (by decide) (by decide)
            rcases fr_if hF with hF | hF
            · obtain ⟨v19, hF⟩ := fr_rd hF
              rcases fr_if hF with hF | hF
              · cases hF; exact hfr
              · obtain ⟨r20, u21, hc22, hF⟩ := q_bnd_some hF
                have hfr := hfr.app (fr_X11_hasRoom hc22) (by decide) (by decide) (by decide)
                rcases fr_if hF with hF | hF
                · cases hF; exact hfr
                · obtain ⟨r23, u24, hc25, hF⟩ := q_bnd_some hF
                  have hfr := hfr.app (fr_X11_enter hc25) (by decide) (by decide) (by decide)
                  obtain ⟨v26, hF⟩ := fr_rd hF
                  obtain ⟨u27, hfr, hF⟩ := fr_wa hfr hF (by decide)
                  obtain ⟨r28, u29, hc30, hF⟩ := q_bnd_some hF
                  have hfr := hfr.app (fr_X11_soilNode hc30) (by decide) (by decide) (by decide)
                  obtain ⟨v31, hF⟩ := fr_rd hF
                  cases hF; exact hfr
            · cases hF; exact hfr
abbrev wi_X11_links : List Nat := []
abbrev wa_X11_links : List Nat := []
abbrev wj_X11_links : List Nat := []
set_option maxHeartbeats 4000000 in
set_option maxRecDepth 100000 in
theorem fr_X11_links {N : Nat} {o1 : Int32} {u0 σ0 : q_St} {r0 : Int32} (hF : fX11_links N o1 u0 = some (r0, σ0)) : Fr wi_X11_links wa_X11_links wj_X11_links u0 σ0 := by
  unfold fX11_links at hF
  have hfr := Fr.rf wi_X11_links wa_X11_links wj_X11_links u0
  rcases fr_if hF with hF | hF
  · cases hF; exact hfr
  · obtain ⟨r1, u2, hc3, hF⟩ := q_bnd_some hF
    have hfr := hfr.app (fr_X11_isFile hc3) (by decide) (by decide) (by decide)
    rcases fr_if hF with hF | hF
    · cases hF; exact hfr
    · obtain ⟨v4, hF⟩ := fr_rd hF
      cases hF; exact hfr
abbrev wi_X11_sizeOf : List Nat := []
abbrev wa_X11_sizeOf : List Nat := []
abbrev wj_X11_sizeOf : List Nat := []
set_option maxHeartbeats 4000000 in
set_option maxRecDepth 100000 in
theorem fr_X11_sizeOf {N : Nat} {o1 : Int32} {u0 σ0 : q_St} {r0 : Int32} (hF : fX11_sizeOf N o1 u0 = some (r0, σ0)) : Fr wi_X11_sizeOf wa_X11_sizeOf wj_X11_sizeOf u0 σ0 := by
  unfold fX11_sizeOf at hF
  have hfr := Fr.rf wi_X11_sizeOf wa_X11_sizeOf wj_X11_sizeOf u0
  rcases fr_if hF with hF | hF
  · cases hF; exact hfr
  · obtain ⟨v1, hF⟩ := fr_rd hF
    cases hF; exact hfr
abbrev wi_X11_byteOf : List Nat := []
abbrev wa_X11_byteOf : List Nat := []
abbrev wj_X11_byteOf : List Nat := []
set_option maxHeartbeats 4000000 in
set_option maxRecDepth 100000 in
theorem fr_X11_byteOf {N : Nat} {o1 : Int32} {o2 : Int32} {u0 σ0 : q_St} {r0 : Int32} (hF : fX11_byteOf N o1 o2 u0 = some (r0, σ0)) : Fr wi_X11_byteOf wa_X11_byteOf wj_X11_byteOf u0 σ0 := by
  unfold fX11_byteOf at hF
  have hfr := Fr.rf wi_X11_byteOf wa_X11_byteOf wj_X11_byteOf u0
  rcases fr_if hF with hF | hF
  · obtain ⟨v2, hF⟩ := fr_rd hF
    cases hF; exact hfr
  · obtain ⟨v1, hF⟩ := fr_rd hF
    cases hF; exact hfr
abbrev wi_X11_begin : List Nat := [29]
abbrev wa_X11_begin : List Nat := [36, 37]
abbrev wj_X11_begin : List Nat := []
set_option maxHeartbeats 4000000 in
set_option maxRecDepth 100000 in
theorem fr_X11_begin {N : Nat} {o1 : Int32} {o2 : Int32} {u0 σ0 : q_St} {r0 : Int32} (hF : fX11_begin N o1 o2 u0 = some (r0, σ0)) : Fr wi_X11_begin wa_X11_begin wj_X11_begin u0 σ0 := by
  unfold fX11_begin at hF
  have hfr := Fr.rf wi_X11_begin wa_X11_begin wj_X11_begin u0
  obtain ⟨u1, hfr, hF⟩ := fr_wa hfr hF (by decide)
  obtain ⟨u2, hfr, hF⟩ := fr_wa hfr hF (by decide)
  obtain ⟨u3, hfr, hF⟩ := fr_si hfr hF (by decide)
  obtain ⟨r4, u5, hc6, hF⟩ := q_bnd_some hF
  have hfr := hfr.app (fr_X11_sizeOf hc6) (by decide) (by decide) (by decide)
  rcases fr_if hF with hF | hF
  · cases hF; exact hfr
  · obtain ⟨r7, u8, hc9, hF⟩ := q_bnd_some hF
    have hfr := hfr.app (fr_X11_byteOf hc9) (by decide) (by decide) (by decide)
    rcases fr_if hF with hF | hF
    · cases hF; exact hfr
    · cases hF; exact hfr
abbrev wi_X11_isWhole : List Nat := []
abbrev wa_X11_isWhole : List Nat := []
abbrev wj_X11_isWhole : List Nat := []
set_option maxHeartbeats 4000000 in
set_option maxRecDepth 100000 in
theorem fr_X11_isWhole {N : Nat} {o0 : Int64} {o2 : Int32} {u0 σ0 : q_St} {r0 : Int32} (hF : fX11_isWhole N o0 o2 u0 = some (r0, σ0)) : Fr wi_X11_isWhole wa_X11_isWhole wj_X11_isWhole u0 σ0 := by
  have hB21 : ∀ (x0 : Int64) (x2 : Int32) (u : q_St), Fr wi_X11_isWhole wa_X11_isWhole wj_X11_isWhole u0 u → fX11_isWhole_b21 N x0 x2 u = some (r0, σ0) → Fr wi_X11_isWhole wa_X11_isWhole wj_X11_isWhole u0 σ0 := by
    intro x0 x2 u hfr hF
    unfold fX11_isWhole_b21 at hF
    obtain ⟨r4, u5, hc6, hF⟩ := q_bnd_some hF
    have hfr := hfr.app (fr_X11_letter hc6) (by decide) (by decide) (by decide)
    rcases fr_if hF with hF | hF
    · cases hF; exact hfr
    · cases hF; exact hfr
  unfold fX11_isWhole at hF
  have hfr := Fr.rf wi_X11_isWhole wa_X11_isWhole wj_X11_isWhole u0
  obtain ⟨r1, u2, hc3, hF⟩ := q_bnd_some hF
  have hfr := hfr.app (fr_X11_isName hc3) (by decide) (by decide) (by decide)
  rcases fr_if hF with hF | hF
  · cases hF; exact hfr
  · rcases fr_if hF with hF | hF
    · exact hB21 o0 o2 u2 hfr hF
    · obtain ⟨r7, u8, hc9, hF⟩ := q_bnd_some hF
      have hfr := hfr.app (fr_X11_letter hc9) (by decide) (by decide) (by decide)
      rcases fr_if hF with hF | hF
      · exact hB21 o0 o2 u8 hfr hF
      · cases hF; exact hfr
abbrev wi_X11_part : List Nat := [29, 31]
abbrev wa_X11_part : List Nat := [36, 37]
abbrev wj_X11_part : List Nat := []
set_option maxHeartbeats 4000000 in
set_option maxRecDepth 100000 in
theorem fr_X11_part {N : Nat} {o1 : Int32} {u0 σ0 : q_St} {r0 : Int32} (hF : fX11_part N o1 u0 = some (r0, σ0)) : Fr wi_X11_part wa_X11_part wj_X11_part u0 σ0 := by
  have hB203 : ∀ (n : Nat) (x1 : Int32) (x2 : Int32) (x3 : Int32) (x5 : Int32) (x7 : Int64) (x9 : Int32) (u : q_St), Fr wi_X11_part wa_X11_part wj_X11_part u0 u → q_lp (fX11_part_b203 N) (fun _ _ _ _ _ _ _ => none) n x1 x2 x3 x5 x7 x9 u = some (r0, σ0) → Fr wi_X11_part wa_X11_part wj_X11_part u0 σ0 := by
    intro n
    induction n with
    | zero => intro x1 x2 x3 x5 x7 x9 u hfr hF; exact absurd (show (none : Option (Int32 × q_St)) = some _ from hF) (fun h => nomatch h)
    | succ n hi203 =>
      intro x1 x2 x3 x5 x7 x9 u hfr hF
      obtain ⟨ih203, hih⟩ : ∃ q, q = q_lp (fX11_part_b203 N) (fun _ _ _ _ _ _ _ => none) n := ⟨_, rfl⟩
      rw [← hih] at hi203
      have hF : fX11_part_b203 N (q_lp (fX11_part_b203 N) (fun _ _ _ _ _ _ _ => none) n) x1 x2 x3 x5 x7 x9 u = some (r0, σ0) := hF
      rw [← hih] at hF
      clear hih
      unfold fX11_part_b203 at hF
      rcases fr_if hF with hF | hF
      · obtain ⟨r13, u14, hc15, hF⟩ := q_bnd_some hF
        have hfr := hfr.app (fr_X11_isWhole hc15) (by decide) (by decide) (by decide)
        rcases fr_if hF with hF | hF
        · cases hF; exact hfr
        · obtain ⟨r16, u17, hc18, hF⟩ := q_bnd_some hF
          have hfr := hfr.app (fr_X11_may hc18) (by decide) (by decide) (by decide)
          rcases fr_if hF with hF | hF
          · cases hF; exact hfr
          · obtain ⟨r19, u20, hc21, hF⟩ := q_bnd_some hF
            have hfr := hfr.app (fr_X11_slotOf hc21) (by decide) (by decide) (by decide)
            rcases fr_if hF with hF | hF
            · cases hF; exact hfr
            · obtain ⟨v22, hF⟩ := fr_rd hF
              obtain ⟨v23, hF⟩ := fr_rd hF
              rcases fr_if hF with hF | hF
              · obtain ⟨u24, hfr, hF⟩ := fr_si hfr hF (by decide)
                rcases fr_if hF with hF | hF
                · obtain ⟨r25, u26, hc27, hF⟩ := q_bnd_some hF
                  have hfr := hfr.app (fr_X11_begin hc27) (by decide) (by decide) (by decide)
                  cases hF; exact hfr
                · cases hF; exact hfr
              · cases hF; exact hfr
      · obtain ⟨r28, u29, hc30, hF⟩ := q_bnd_some hF
        have hfr := hfr.app (fr_X11_byteOf hc30) (by decide) (by decide) (by decide)
        obtain ⟨v31, hF⟩ := fr_nm hF
        obtain ⟨v32, hF⟩ := fr_nm hF
        exact hi203 x1 x2 x3 x5 v31 v32 u29 hfr hF
  have hB184 : ∀ (x1 : Int32) (x2 : Int32) (x3 : Int32) (x4 : Int32) (x5 : Int32) (u : q_St), Fr wi_X11_part wa_X11_part wj_X11_part u0 u → fX11_part_b184 N x1 x2 x3 x4 x5 u = some (r0, σ0) → Fr wi_X11_part wa_X11_part wj_X11_part u0 σ0 := by
    intro x1 x2 x3 x4 x5 u hfr hF
    unfold fX11_part_b184 at hF
    rcases fr_if hF with hF | hF
    · obtain ⟨v12, hF⟩ := fr_nm hF
      exact hB203 N x1 x2 x3 x5 0 v12 u hfr hF
    · cases hF; exact hfr
  have hB153 : ∀ (x1 : Int32) (x2 : Int32) (x3 : Int32) (x4 : Int32) (x5 : Int32) (x6 : Int32) (u : q_St), Fr wi_X11_part wa_X11_part wj_X11_part u0 u → fX11_part_b153 N x1 x2 x3 x4 x5 x6 u = some (r0, σ0) → Fr wi_X11_part wa_X11_part wj_X11_part u0 σ0 := by
    intro x1 x2 x3 x4 x5 x6 u hfr hF
    unfold fX11_part_b153 at hF
    rcases fr_if hF with hF | hF
    · rcases fr_if hF with hF | hF
      · exact hB184 x1 x2 x3 x4 x5 u hfr hF
      · obtain ⟨r33, u34, hc35, hF⟩ := q_bnd_some hF
        have hfr := hfr.app (fr_X11_byteOf hc35) (by decide) (by decide) (by decide)
        rcases fr_if hF with hF | hF
        · obtain ⟨v36, hF⟩ := fr_rd hF
          cases hF; exact hfr
        · exact hB184 x1 x2 x3 x4 x5 u34 hfr hF
    · exact hB184 x1 x2 x3 x4 x5 u hfr hF
  have hB133 : ∀ (x1 : Int32) (x2 : Int32) (x3 : Int32) (x4 : Int32) (x5 : Int32) (y0 : Int32) (u : q_St), Fr wi_X11_part wa_X11_part wj_X11_part u0 u → fX11_part_b133 N x1 x2 x3 x4 x5 y0 u = some (r0, σ0) → Fr wi_X11_part wa_X11_part wj_X11_part u0 σ0 := by
    intro x1 x2 x3 x4 x5 y0 u hfr hF
    unfold fX11_part_b133 at hF
    rcases fr_if hF with hF | hF
    · cases hF; exact hfr
    · rcases fr_if hF with hF | hF
      · rcases fr_if hF with hF | hF
        · exact hB153 x1 x2 x3 x4 x5 y0 u hfr hF
        · cases hF; exact hfr
      · exact hB153 x1 x2 x3 x4 x5 y0 u hfr hF
  have hB132 : ∀ (x1 : Int32) (x2 : Int32) (x3 : Int32) (x4 : Int32) (x5 : Int32) (u : q_St), Fr wi_X11_part wa_X11_part wj_X11_part u0 u → fX11_part_b132 N x1 x2 x3 x4 x5 u = some (r0, σ0) → Fr wi_X11_part wa_X11_part wj_X11_part u0 σ0 := by
    intro x1 x2 x3 x4 x5 u hfr hF
    unfold fX11_part_b132 at hF
    exact hB133 x1 x2 x3 x4 x5 0 u hfr hF
  have hB93 : ∀ (x1 : Int32) (x2 : Int32) (x3 : Int32) (x4 : Int32) (u : q_St), Fr wi_X11_part wa_X11_part wj_X11_part u0 u → fX11_part_b93 N x1 x2 x3 x4 u = some (r0, σ0) → Fr wi_X11_part wa_X11_part wj_X11_part u0 σ0 := by
    intro x1 x2 x3 x4 u hfr hF
    unfold fX11_part_b93 at hF
    obtain ⟨v10, hF⟩ := fr_rd hF
    rcases fr_if hF with hF | hF
    · obtain ⟨v11, hF⟩ := fr_nm hF
      rcases fr_if hF with hF | hF
      · exact hB132 x1 x2 x3 x4 v11 u hfr hF
      · obtain ⟨r37, u38, hc39, hF⟩ := q_bnd_some hF
        have hfr := hfr.app (fr_X11_byteOf hc39) (by decide) (by decide) (by decide)
        rcases fr_if hF with hF | hF
        · exact hB133 x1 x2 x3 x4 v11 1 u38 hfr hF
        · exact hB132 x1 x2 x3 x4 v11 u38 hfr hF
    · cases hF; exact hfr
  have hB55 : ∀ (x1 : Int32) (x2 : Int32) (x3 : Int32) (x4 : Int32) (u : q_St), Fr wi_X11_part wa_X11_part wj_X11_part u0 u → fX11_part_b55 N x1 x2 x3 x4 u = some (r0, σ0) → Fr wi_X11_part wa_X11_part wj_X11_part u0 σ0 := by
    intro x1 x2 x3 x4 u hfr hF
    unfold fX11_part_b55 at hF
    obtain ⟨r6, u7, hc8, hF⟩ := q_bnd_some hF
    have hfr := hfr.app (fr_X11_sizeOf hc8) (by decide) (by decide) (by decide)
    rcases fr_if hF with hF | hF
    · obtain ⟨u40, hfr, hF⟩ := fr_si hfr hF (by decide)
      exact hB93 x1 x2 x3 x4 u40 hfr hF
    · obtain ⟨u9, hfr, hF⟩ := fr_wa hfr hF (by decide)
      exact hB93 x1 x2 x3 x4 u9 hfr hF
  have hB27 : ∀ (n : Nat) (x1 : Int32) (x2 : Int32) (x3 : Int32) (x4 : Int32) (u : q_St), Fr wi_X11_part wa_X11_part wj_X11_part u0 u → q_lp (fX11_part_b27 N) (fun _ _ _ _ _ => none) n x1 x2 x3 x4 u = some (r0, σ0) → Fr wi_X11_part wa_X11_part wj_X11_part u0 σ0 := by
    intro n
    induction n with
    | zero => intro x1 x2 x3 x4 u hfr hF; exact absurd (show (none : Option (Int32 × q_St)) = some _ from hF) (fun h => nomatch h)
    | succ n hi27 =>
      intro x1 x2 x3 x4 u hfr hF
      obtain ⟨ih27, hih⟩ : ∃ q, q = q_lp (fX11_part_b27 N) (fun _ _ _ _ _ => none) n := ⟨_, rfl⟩
      rw [← hih] at hi27
      have hF : fX11_part_b27 N (q_lp (fX11_part_b27 N) (fun _ _ _ _ _ => none) n) x1 x2 x3 x4 u = some (r0, σ0) := hF
      rw [← hih] at hF
      clear hih
      unfold fX11_part_b27 at hF
      obtain ⟨r3, u4, hc5, hF⟩ := q_bnd_some hF
      have hfr := hfr.app (fr_X11_sizeOf hc5) (by decide) (by decide) (by decide)
      rcases fr_if hF with hF | hF
      · exact hB55 x1 x2 x3 x4 u4 hfr hF
      · obtain ⟨r41, u42, hc43, hF⟩ := q_bnd_some hF
        have hfr := hfr.app (fr_X11_byteOf hc43) (by decide) (by decide) (by decide)
        rcases fr_if hF with hF | hF
        · exact hB55 x1 x2 x3 x4 u42 hfr hF
        · obtain ⟨v44, hF⟩ := fr_nm hF
          exact hi27 x1 x2 x3 v44 u42 hfr hF
  unfold fX11_part at hF
  have hfr := Fr.rf wi_X11_part wa_X11_part wj_X11_part u0
  obtain ⟨v1, hF⟩ := fr_rd hF
  obtain ⟨v2, hF⟩ := fr_rd hF
  exact hB27 N o1 v1 v2 v2 u0 hfr hF
abbrev wi_X11_walk : List Nat := [27, 29, 30, 31]
abbrev wa_X11_walk : List Nat := [36, 37]
abbrev wj_X11_walk : List Nat := []
set_option maxHeartbeats 4000000 in
set_option maxRecDepth 100000 in
theorem fr_X11_walk {N : Nat} {o1 : Int32} {u0 σ0 : q_St} {r0 : Int32} (hF : fX11_walk N o1 u0 = some (r0, σ0)) : Fr wi_X11_walk wa_X11_walk wj_X11_walk u0 σ0 := by
  have hB51 : ∀ (n : Nat) (x2 : Int32) (u : q_St), Fr wi_X11_walk wa_X11_walk wj_X11_walk u0 u → q_lp (fX11_walk_b51 N) (fun _ _ => none) n x2 u = some (r0, σ0) → Fr wi_X11_walk wa_X11_walk wj_X11_walk u0 σ0 := by
    intro n
    induction n with
    | zero => intro x2 u hfr hF; exact absurd (show (none : Option (Int32 × q_St)) = some _ from hF) (fun h => nomatch h)
    | succ n hi51 =>
      intro x2 u hfr hF
      obtain ⟨ih51, hih⟩ : ∃ q, q = q_lp (fX11_walk_b51 N) (fun _ _ => none) n := ⟨_, rfl⟩
      rw [← hih] at hi51
      have hF : fX11_walk_b51 N (q_lp (fX11_walk_b51 N) (fun _ _ => none) n) x2 u = some (r0, σ0) := hF
      rw [← hih] at hF
      clear hih
      unfold fX11_walk_b51 at hF
      rcases fr_if hF with hF | hF
      · cases hF; exact hfr
      · rcases fr_if hF with hF | hF
        · cases hF; exact hfr
        · obtain ⟨r11, u12, hc13, hF⟩ := q_bnd_some hF
          have hfr := hfr.app (fr_X11_part hc13) (by decide) (by decide) (by decide)
          exact hi51 r11 u12 hfr hF
  unfold fX11_walk at hF
  have hfr := Fr.rf wi_X11_walk wa_X11_walk wj_X11_walk u0
  obtain ⟨u1, hfr, hF⟩ := fr_si hfr hF (by decide)
  obtain ⟨u2, hfr, hF⟩ := fr_si hfr hF (by decide)
  rcases fr_if hF with hF | hF
  · cases hF; exact hfr
  · obtain ⟨r3, u4, hc5, hF⟩ := q_bnd_some hF
    have hfr := hfr.app (fr_X11_isDirectory hc5) (by decide) (by decide) (by decide)
    rcases fr_if hF with hF | hF
    · cases hF; exact hfr
    · obtain ⟨u6, hfr, hF⟩ := fr_si hfr hF (by decide)
      obtain ⟨u7, hfr, hF⟩ := fr_si hfr hF (by decide)
      obtain ⟨r8, u9, hc10, hF⟩ := q_bnd_some hF
      have hfr := hfr.app (fr_X11_begin hc10) (by decide) (by decide) (by decide)
      exact hB51 N r8 u9 hfr hF
abbrev wi_X11_isEmptyBand : List Nat := []
abbrev wa_X11_isEmptyBand : List Nat := []
abbrev wj_X11_isEmptyBand : List Nat := []
set_option maxHeartbeats 4000000 in
set_option maxRecDepth 100000 in
theorem fr_X11_isEmptyBand {N : Nat} {o1 : Int32} {u0 σ0 : q_St} {r0 : Int32} (hF : fX11_isEmptyBand N o1 u0 = some (r0, σ0)) : Fr wi_X11_isEmptyBand wa_X11_isEmptyBand wj_X11_isEmptyBand u0 σ0 := by
  have hB60 : ∀ (ih21 : Int32 → Int32 → Int32 → q_St → Option (Int32 × q_St)) (hi21 : ∀ (x1 : Int32) (x2 : Int32) (x3 : Int32) (u : q_St), Fr wi_X11_isEmptyBand wa_X11_isEmptyBand wj_X11_isEmptyBand u0 u → ih21 x1 x2 x3 u = some (r0, σ0) → Fr wi_X11_isEmptyBand wa_X11_isEmptyBand wj_X11_isEmptyBand u0 σ0), ∀ (x1 : Int32) (x3 : Int32) (y0 : Int32) (u : q_St), Fr wi_X11_isEmptyBand wa_X11_isEmptyBand wj_X11_isEmptyBand u0 u → fX11_isEmptyBand_b60 N ih21 x1 x3 y0 u = some (r0, σ0) → Fr wi_X11_isEmptyBand wa_X11_isEmptyBand wj_X11_isEmptyBand u0 σ0 := by
    intro ih21 hi21 x1 x3 y0 u hfr hF
    unfold fX11_isEmptyBand_b60 at hF
    obtain ⟨v3, hF⟩ := fr_nm hF
    exact hi21 x1 y0 v3 u hfr hF
  have hB59 : ∀ (ih21 : Int32 → Int32 → Int32 → q_St → Option (Int32 × q_St)) (hi21 : ∀ (x1 : Int32) (x2 : Int32) (x3 : Int32) (u : q_St), Fr wi_X11_isEmptyBand wa_X11_isEmptyBand wj_X11_isEmptyBand u0 u → ih21 x1 x2 x3 u = some (r0, σ0) → Fr wi_X11_isEmptyBand wa_X11_isEmptyBand wj_X11_isEmptyBand u0 σ0), ∀ (x1 : Int32) (x3 : Int32) (u : q_St), Fr wi_X11_isEmptyBand wa_X11_isEmptyBand wj_X11_isEmptyBand u0 u → fX11_isEmptyBand_b59 N ih21 x1 x3 u = some (r0, σ0) → Fr wi_X11_isEmptyBand wa_X11_isEmptyBand wj_X11_isEmptyBand u0 σ0 := by
    intro ih21 hi21 x1 x3 u hfr hF
    unfold fX11_isEmptyBand_b59 at hF
    exact hB60 ih21 hi21 x1 x3 0 u hfr hF
  have hB21 : ∀ (n : Nat) (x1 : Int32) (x2 : Int32) (x3 : Int32) (u : q_St), Fr wi_X11_isEmptyBand wa_X11_isEmptyBand wj_X11_isEmptyBand u0 u → q_lp (fX11_isEmptyBand_b21 N) (fun _ _ _ _ => none) n x1 x2 x3 u = some (r0, σ0) → Fr wi_X11_isEmptyBand wa_X11_isEmptyBand wj_X11_isEmptyBand u0 σ0 := by
    intro n
    induction n with
    | zero => intro x1 x2 x3 u hfr hF; exact absurd (show (none : Option (Int32 × q_St)) = some _ from hF) (fun h => nomatch h)
    | succ n hi21 =>
      intro x1 x2 x3 u hfr hF
      obtain ⟨ih21, hih⟩ : ∃ q, q = q_lp (fX11_isEmptyBand_b21 N) (fun _ _ _ _ => none) n := ⟨_, rfl⟩
      rw [← hih] at hi21
      have hF : fX11_isEmptyBand_b21 N (q_lp (fX11_isEmptyBand_b21 N) (fun _ _ _ _ => none) n) x1 x2 x3 u = some (r0, σ0) := hF
      rw [← hih] at hF
      clear hih
      unfold fX11_isEmptyBand_b21 at hF
      rcases fr_if hF with hF | hF
      · have hF := (q_rz_some hF).2
        cases hF; exact hfr
      · rcases fr_if hF with hF | hF
        · have hF := (q_rz_some hF).2
          cases hF; exact hfr
        · obtain ⟨v2, hF⟩ := fr_rd hF
          rcases fr_if hF with hF | hF
          · obtain ⟨v4, hF⟩ := fr_rd hF
            rcases fr_if hF with hF | hF
            · exact hB60 ih21 hi21 x1 x3 1 u hfr hF
            · exact hB59 ih21 hi21 x1 x3 u hfr hF
          · exact hB59 ih21 hi21 x1 x3 u hfr hF
  have hB13 : ∀ (x1 : Int32) (y0 : Int32) (u : q_St), Fr wi_X11_isEmptyBand wa_X11_isEmptyBand wj_X11_isEmptyBand u0 u → fX11_isEmptyBand_b13 N x1 y0 u = some (r0, σ0) → Fr wi_X11_isEmptyBand wa_X11_isEmptyBand wj_X11_isEmptyBand u0 σ0 := by
    intro x1 y0 u hfr hF
    unfold fX11_isEmptyBand_b13 at hF
    obtain ⟨v1, hF⟩ := fr_nm hF
    exact hB21 N x1 y0 v1 u hfr hF
  unfold fX11_isEmptyBand at hF
  have hfr := Fr.rf wi_X11_isEmptyBand wa_X11_isEmptyBand wj_X11_isEmptyBand u0
  rcases fr_if hF with hF | hF
  · exact hB13 o1 0 u0 hfr hF
  · exact hB13 o1 1 u0 hfr hF
abbrev wi_X11_emptyBand : List Nat := []
abbrev wa_X11_emptyBand : List Nat := []
abbrev wj_X11_emptyBand : List Nat := []
set_option maxHeartbeats 4000000 in
set_option maxRecDepth 100000 in
theorem fr_X11_emptyBand {N : Nat}  {u0 σ0 : q_St} {r0 : Int32} (hF : fX11_emptyBand N u0 = some (r0, σ0)) : Fr wi_X11_emptyBand wa_X11_emptyBand wj_X11_emptyBand u0 σ0 := by
  have hB7 : ∀ (n : Nat) (x1 : Int32) (u : q_St), Fr wi_X11_emptyBand wa_X11_emptyBand wj_X11_emptyBand u0 u → q_lp (fX11_emptyBand_b7 N) (fun _ _ => none) n x1 u = some (r0, σ0) → Fr wi_X11_emptyBand wa_X11_emptyBand wj_X11_emptyBand u0 σ0 := by
    intro n
    induction n with
    | zero => intro x1 u hfr hF; exact absurd (show (none : Option (Int32 × q_St)) = some _ from hF) (fun h => nomatch h)
    | succ n hi7 =>
      intro x1 u hfr hF
      obtain ⟨ih7, hih⟩ : ∃ q, q = q_lp (fX11_emptyBand_b7 N) (fun _ _ => none) n := ⟨_, rfl⟩
      rw [← hih] at hi7
      have hF : fX11_emptyBand_b7 N (q_lp (fX11_emptyBand_b7 N) (fun _ _ => none) n) x1 u = some (r0, σ0) := hF
      rw [← hih] at hF
      clear hih
      unfold fX11_emptyBand_b7 at hF
      rcases fr_if hF with hF | hF
      · cases hF; exact hfr
      · obtain ⟨r2, u3, hc4, hF⟩ := q_bnd_some hF
        have hfr := hfr.app (fr_X11_isEmptyBand hc4) (by decide) (by decide) (by decide)
        rcases fr_if hF with hF | hF
        · obtain ⟨v5, hF⟩ := fr_nm hF
          exact hi7 v5 u3 hfr hF
        · cases hF; exact hfr
  unfold fX11_emptyBand at hF
  have hfr := Fr.rf wi_X11_emptyBand wa_X11_emptyBand wj_X11_emptyBand u0
  obtain ⟨v1, hF⟩ := fr_nm hF
  exact hB7 N v1 u0 hfr hF
abbrev wi_X11_stream : List Nat := [9, 10, 12, 14, 18, 24]
abbrev wa_X11_stream : List Nat := [0, 4]
abbrev wj_X11_stream : List Nat := []
set_option maxHeartbeats 4000000 in
set_option maxRecDepth 100000 in
theorem fr_X11_stream {N : Nat} {o1 : Int32} {u0 σ0 : q_St} {r0 : Int32} (hF : fX11_stream N o1 u0 = some (r0, σ0)) : Fr wi_X11_stream wa_X11_stream wj_X11_stream u0 σ0 := by
  unfold fX11_stream at hF
  have hfr := Fr.rf wi_X11_stream wa_X11_stream wj_X11_stream u0
  obtain ⟨r1, u2, hc3, hF⟩ := q_bnd_some hF
  have hfr := hfr.app (fr_X11_record hc3) (by decide) (by decide) (by decide)
  rcases fr_if hF with hF | hF
  · cases hF; exact hfr
  · obtain ⟨u4, hfr, hF⟩ := fr_wa hfr hF (by decide)
    obtain ⟨u5, hfr, hF⟩ := fr_si hfr hF (by decide)
    obtain ⟨r6, u7, hc8, hF⟩ := q_bnd_some hF
    have hfr := hfr.app (fr_X11_fill hc8) (by decide) (by decide) (by decide)
    have hF := (q_rz_some hF).2
    cases hF; exact hfr
abbrev wi_X11_lay : List Nat := [9, 10, 11, 12, 13, 14, 15, 16, 17, 18, 19, 20, 21, 22, 23, 24, 25, 26, 27]
abbrev wa_X11_lay : List Nat := [0, 1, 2, 3, 4, 5, 6, 7, 8, 11, 12, 13, 14, 15, 17, 18, 19, 20, 21, 22, 23, 24, 25, 26, 27, 28, 29, 30, 31, 32, 33, 34]
abbrev wj_X11_lay : List Nat := [0, 1]
set_option maxHeartbeats 4000000 in
set_option maxRecDepth 100000 in
theorem fr_X11_lay {N : Nat} {o1 : Int32} {o2 : Int64} {u0 σ0 : q_St} {r0 : Int32} (hF : fX11_lay N o1 o2 u0 = some (r0, σ0)) : Fr wi_X11_lay wa_X11_lay wj_X11_lay u0 σ0 := by
  have hB179 : ∀ (n : Nat) (x1 : Int32) (x2 : Int64) (x6 : Int32) (x7 : Int32) (x8 : Int32) (u : q_St), Fr wi_X11_lay wa_X11_lay wj_X11_lay u0 u → q_lp (fX11_lay_b179 N) (fun _ _ _ _ _ _ => none) n x1 x2 x6 x7 x8 u = some (r0, σ0) → Fr wi_X11_lay wa_X11_lay wj_X11_lay u0 σ0 := by
    intro n
    induction n with
    | zero => intro x1 x2 x6 x7 x8 u hfr hF; exact absurd (show (none : Option (Int32 × q_St)) = some _ from hF) (fun h => nomatch h)
    | succ n hi179 =>
      intro x1 x2 x6 x7 x8 u hfr hF
      obtain ⟨ih179, hih⟩ : ∃ q, q = q_lp (fX11_lay_b179 N) (fun _ _ _ _ _ _ => none) n := ⟨_, rfl⟩
      rw [← hih] at hi179
      have hF : fX11_lay_b179 N (q_lp (fX11_lay_b179 N) (fun _ _ _ _ _ _ => none) n) x1 x2 x6 x7 x8 u = some (r0, σ0) := hF
      rw [← hih] at hF
      clear hih
      unfold fX11_lay_b179 at hF
      rcases fr_if hF with hF | hF
      · obtain ⟨r22, u23, hc24, hF⟩ := q_bnd_some hF
        have hfr := hfr.app (fr_X11_enter hc24) (by decide) (by decide) (by decide)
        obtain ⟨r25, u26, hc27, hF⟩ := q_bnd_some hF
        have hfr := hfr.app (fr_X11_born hc27) (by decide) (by decide) (by decide)
        obtain ⟨u28, hfr, hF⟩ := fr_wa hfr hF (by decide)
        obtain ⟨u29, hfr, hF⟩ := fr_wa hfr hF (by decide)
        cases hF; exact hfr
      · obtain ⟨u30, hfr, hF⟩ := fr_wa hfr hF (by decide)
        obtain ⟨r31, u32, hc33, hF⟩ := q_bnd_some hF
        have hfr := hfr.app (fr_X11_soilMap hc33) (by decide) (by decide) (by decide)
        obtain ⟨v34, hF⟩ := fr_nm hF
        exact hi179 x1 x2 x6 x7 v34 u32 hfr hF
  have hB96 : ∀ (n : Nat) (x1 : Int32) (x2 : Int64) (x4 : Int32) (x6 : Int32) (x7 : Int32) (x8 : Int32) (u : q_St), Fr wi_X11_lay wa_X11_lay wj_X11_lay u0 u → q_lp (fX11_lay_b96 N) (fun _ _ _ _ _ _ _ => none) n x1 x2 x4 x6 x7 x8 u = some (r0, σ0) → Fr wi_X11_lay wa_X11_lay wj_X11_lay u0 σ0 := by
    intro n
    induction n with
    | zero => intro x1 x2 x4 x6 x7 x8 u hfr hF; exact absurd (show (none : Option (Int32 × q_St)) = some _ from hF) (fun h => nomatch h)
    | succ n hi96 =>
      intro x1 x2 x4 x6 x7 x8 u hfr hF
      obtain ⟨ih96, hih⟩ : ∃ q, q = q_lp (fX11_lay_b96 N) (fun _ _ _ _ _ _ _ => none) n := ⟨_, rfl⟩
      rw [← hih] at hi96
      have hF : fX11_lay_b96 N (q_lp (fX11_lay_b96 N) (fun _ _ _ _ _ _ _ => none) n) x1 x2 x4 x6 x7 x8 u = some (r0, σ0) := hF
      rw [← hih] at hF
      clear hih
      unfold fX11_lay_b96 at hF
      rcases fr_if hF with hF | hF
      · obtain ⟨v21, hF⟩ := fr_nm hF
        exact hB179 N x1 x2 x6 x7 v21 u hfr hF
      · have hF := (q_dv_some hF).2
        obtain ⟨v35, hF⟩ := fr_rd hF
        obtain ⟨u36, hfr, hF⟩ := fr_wa hfr hF (by decide)
        have hF := (q_dv_some hF).2
        obtain ⟨v37, hF⟩ := fr_rd hF
        obtain ⟨u38, hfr, hF⟩ := fr_wa hfr hF (by decide)
        obtain ⟨v39, hF⟩ := fr_nm hF
        exact hi96 x1 x2 x4 x6 x7 v39 u38 hfr hF
  unfold fX11_lay at hF
  have hfr := Fr.rf wi_X11_lay wa_X11_lay wj_X11_lay u0
  obtain ⟨v1, hF⟩ := fr_nm hF
  obtain ⟨u2, hfr, hF⟩ := fr_si hfr hF (by decide)
  obtain ⟨r3, u4, hc5, hF⟩ := q_bnd_some hF
  have hfr := hfr.app (fr_X11_begins hc5) (by decide) (by decide) (by decide)
  rcases fr_if hF with hF | hF
  · cases hF; exact hfr
  · obtain ⟨r6, u7, hc8, hF⟩ := q_bnd_some hF
    have hfr := hfr.app (fr_X11_refusal hc8) (by decide) (by decide) (by decide)
    rcases fr_if hF with hF | hF
    · rcases fr_if hF with hF | hF
      · cases hF; exact hfr
      · obtain ⟨r9, u10, hc11, hF⟩ := q_bnd_some hF
        have hfr := hfr.app (fr_X11_freeNode hc11) (by decide) (by decide) (by decide)
        obtain ⟨r12, u13, hc14, hF⟩ := q_bnd_some hF
        have hfr := hfr.app (fr_X11_emptyBand hc14) (by decide) (by decide) (by decide)
        rcases fr_if hF with hF | hF
        · cases hF; exact hfr
        · rcases fr_if hF with hF | hF
          · cases hF; exact hfr
          · obtain ⟨r15, u16, hc17, hF⟩ := q_bnd_some hF
            have hfr := hfr.app (fr_X11_hasRoom hc17) (by decide) (by decide) (by decide)
            rcases fr_if hF with hF | hF
            · cases hF; exact hfr
            · obtain ⟨r18, u19, hc20, hF⟩ := q_bnd_some hF
              have hfr := hfr.app (fr_X11_stream hc20) (by decide) (by decide) (by decide)
              rcases fr_if hF with hF | hF
              · cases hF; exact hfr
              · exact hB96 N o1 o2 v1 r9 r12 0 u19 hfr hF
    · cases hF; exact hfr
abbrev wi_X11_sectorOf : List Nat := []
abbrev wa_X11_sectorOf : List Nat := []
abbrev wj_X11_sectorOf : List Nat := []
set_option maxHeartbeats 4000000 in
set_option maxRecDepth 100000 in
theorem fr_X11_sectorOf {N : Nat} {o1 : Int32} {o2 : Int32} {u0 σ0 : q_St} {r0 : Int32} (hF : fX11_sectorOf N o1 o2 u0 = some (r0, σ0)) : Fr wi_X11_sectorOf wa_X11_sectorOf wj_X11_sectorOf u0 σ0 := by
  unfold fX11_sectorOf at hF
  have hfr := Fr.rf wi_X11_sectorOf wa_X11_sectorOf wj_X11_sectorOf u0
  obtain ⟨v1, hF⟩ := fr_rd hF
  rcases fr_if hF with hF | hF
  · obtain ⟨v3, hF⟩ := fr_rd hF
    cases hF; exact hfr
  · obtain ⟨v2, hF⟩ := fr_rd hF
    cases hF; exact hfr
abbrev wi_X11_indexOf : List Nat := []
abbrev wa_X11_indexOf : List Nat := []
abbrev wj_X11_indexOf : List Nat := []
set_option maxHeartbeats 4000000 in
set_option maxRecDepth 100000 in
theorem fr_X11_indexOf {N : Nat} {o0 : Int32} {u0 σ0 : q_St} {r0 : Int32} (hF : fX11_indexOf N o0 u0 = some (r0, σ0)) : Fr wi_X11_indexOf wa_X11_indexOf wj_X11_indexOf u0 σ0 := by
  unfold fX11_indexOf at hF
  have hfr := Fr.rf wi_X11_indexOf wa_X11_indexOf wj_X11_indexOf u0
  rcases fr_if hF with hF | hF
  · rcases fr_if hF with hF | hF
    · cases hF; exact hfr
    · cases hF; exact hfr
  · cases hF; exact hfr
abbrev wi_X11_needs : List Nat := []
abbrev wa_X11_needs : List Nat := []
abbrev wj_X11_needs : List Nat := []
set_option maxHeartbeats 4000000 in
set_option maxRecDepth 100000 in
theorem fr_X11_needs {N : Nat} {o1 : Int32} {o2 : Int32} {o3 : Int32} {u0 σ0 : q_St} {r0 : Int32} (hF : fX11_needs N o1 o2 o3 u0 = some (r0, σ0)) : Fr wi_X11_needs wa_X11_needs wj_X11_needs u0 σ0 := by
  have hB138 : ∀ (y0 : Int32) (y1 : Int32) (u : q_St), Fr wi_X11_needs wa_X11_needs wj_X11_needs u0 u → fX11_needs_b138 N y0 y1 u = some (r0, σ0) → Fr wi_X11_needs wa_X11_needs wj_X11_needs u0 σ0 := by
    intro y0 y1 u hfr hF
    unfold fX11_needs_b138 at hF
    cases hF; exact hfr
  have hB120 : ∀ (ih12 : Int32 → Int32 → Int32 → Int32 → Int32 → Int32 → q_St → Option (Int32 × q_St)) (hi12 : ∀ (x1 : Int32) (x3 : Int32) (x4 : Int32) (x5 : Int32) (x6 : Int32) (x7 : Int32) (u : q_St), Fr wi_X11_needs wa_X11_needs wj_X11_needs u0 u → ih12 x1 x3 x4 x5 x6 x7 u = some (r0, σ0) → Fr wi_X11_needs wa_X11_needs wj_X11_needs u0 σ0), ∀ (x1 : Int32) (x3 : Int32) (x4 : Int32) (x5 : Int32) (x6 : Int32) (x7 : Int32) (u : q_St), Fr wi_X11_needs wa_X11_needs wj_X11_needs u0 u → fX11_needs_b120 N ih12 x1 x3 x4 x5 x6 x7 u = some (r0, σ0) → Fr wi_X11_needs wa_X11_needs wj_X11_needs u0 σ0 := by
    intro ih12 hi12 x1 x3 x4 x5 x6 x7 u hfr hF
    unfold fX11_needs_b120 at hF
    obtain ⟨v6, hF⟩ := fr_nm hF
    exact hi12 x1 x3 x4 x5 x6 v6 u hfr hF
  have hB118 : ∀ (ih12 : Int32 → Int32 → Int32 → Int32 → Int32 → Int32 → q_St → Option (Int32 × q_St)) (hi12 : ∀ (x1 : Int32) (x3 : Int32) (x4 : Int32) (x5 : Int32) (x6 : Int32) (x7 : Int32) (u : q_St), Fr wi_X11_needs wa_X11_needs wj_X11_needs u0 u → ih12 x1 x3 x4 x5 x6 x7 u = some (r0, σ0) → Fr wi_X11_needs wa_X11_needs wj_X11_needs u0 σ0), ∀ (x1 : Int32) (x3 : Int32) (x4 : Int32) (x5 : Int32) (x7 : Int32) (y0 : Int32) (u : q_St), Fr wi_X11_needs wa_X11_needs wj_X11_needs u0 u → fX11_needs_b118 N ih12 x1 x3 x4 x5 x7 y0 u = some (r0, σ0) → Fr wi_X11_needs wa_X11_needs wj_X11_needs u0 σ0 := by
    intro ih12 hi12 x1 x3 x4 x5 x7 y0 u hfr hF
    unfold fX11_needs_b118 at hF
    exact hB120 ih12 hi12 x1 x3 x4 x5 y0 x7 u hfr hF
  have hB113 : ∀ (ih12 : Int32 → Int32 → Int32 → Int32 → Int32 → Int32 → q_St → Option (Int32 × q_St)) (hi12 : ∀ (x1 : Int32) (x3 : Int32) (x4 : Int32) (x5 : Int32) (x6 : Int32) (x7 : Int32) (u : q_St), Fr wi_X11_needs wa_X11_needs wj_X11_needs u0 u → ih12 x1 x3 x4 x5 x6 x7 u = some (r0, σ0) → Fr wi_X11_needs wa_X11_needs wj_X11_needs u0 σ0), ∀ (x1 : Int32) (x3 : Int32) (x4 : Int32) (x5 : Int32) (x7 : Int32) (u : q_St), Fr wi_X11_needs wa_X11_needs wj_X11_needs u0 u → fX11_needs_b113 N ih12 x1 x3 x4 x5 x7 u = some (r0, σ0) → Fr wi_X11_needs wa_X11_needs wj_X11_needs u0 σ0 := by
    intro ih12 hi12 x1 x3 x4 x5 x7 u hfr hF
    unfold fX11_needs_b113 at hF
    exact hB118 ih12 hi12 x1 x3 x4 x5 x7 1 u hfr hF
  have hB117 : ∀ (ih12 : Int32 → Int32 → Int32 → Int32 → Int32 → Int32 → q_St → Option (Int32 × q_St)) (hi12 : ∀ (x1 : Int32) (x3 : Int32) (x4 : Int32) (x5 : Int32) (x6 : Int32) (x7 : Int32) (u : q_St), Fr wi_X11_needs wa_X11_needs wj_X11_needs u0 u → ih12 x1 x3 x4 x5 x6 x7 u = some (r0, σ0) → Fr wi_X11_needs wa_X11_needs wj_X11_needs u0 σ0), ∀ (x1 : Int32) (x3 : Int32) (x4 : Int32) (x5 : Int32) (x7 : Int32) (u : q_St), Fr wi_X11_needs wa_X11_needs wj_X11_needs u0 u → fX11_needs_b117 N ih12 x1 x3 x4 x5 x7 u = some (r0, σ0) → Fr wi_X11_needs wa_X11_needs wj_X11_needs u0 σ0 := by
    intro ih12 hi12 x1 x3 x4 x5 x7 u hfr hF
    unfold fX11_needs_b117 at hF
    exact hB118 ih12 hi12 x1 x3 x4 x5 x7 0 u hfr hF
  have hB12 : ∀ (n : Nat) (x1 : Int32) (x3 : Int32) (x4 : Int32) (x5 : Int32) (x6 : Int32) (x7 : Int32) (u : q_St), Fr wi_X11_needs wa_X11_needs wj_X11_needs u0 u → q_lp (fX11_needs_b12 N) (fun _ _ _ _ _ _ _ => none) n x1 x3 x4 x5 x6 x7 u = some (r0, σ0) → Fr wi_X11_needs wa_X11_needs wj_X11_needs u0 σ0 := by
    intro n
    induction n with
    | zero => intro x1 x3 x4 x5 x6 x7 u hfr hF; exact absurd (show (none : Option (Int32 × q_St)) = some _ from hF) (fun h => nomatch h)
    | succ n hi12 =>
      intro x1 x3 x4 x5 x6 x7 u hfr hF
      obtain ⟨ih12, hih⟩ : ∃ q, q = q_lp (fX11_needs_b12 N) (fun _ _ _ _ _ _ _ => none) n := ⟨_, rfl⟩
      rw [← hih] at hi12
      have hF : fX11_needs_b12 N (q_lp (fX11_needs_b12 N) (fun _ _ _ _ _ _ _ => none) n) x1 x3 x4 x5 x6 x7 u = some (r0, σ0) := hF
      rw [← hih] at hF
      clear hih
      unfold fX11_needs_b12 at hF
      rcases fr_if hF with hF | hF
      · rcases fr_if hF with hF | hF
        · exact hB138 0 x4 u hfr hF
        · exact hB138 1 x4 u hfr hF
      · obtain ⟨v1, hF⟩ := fr_rd hF
        rcases fr_if hF with hF | hF
        · obtain ⟨v2, hF⟩ := fr_nm hF
          obtain ⟨r3, u4, hc5, hF⟩ := q_bnd_some hF
          have hfr := hfr.app (fr_X11_indexOf hc5) (by decide) (by decide) (by decide)
          rcases fr_if hF with hF | hF
          · exact hB120 ih12 hi12 x1 x3 v2 x5 x6 x7 u4 hfr hF
          · rcases fr_if hF with hF | hF
            · exact hB120 ih12 hi12 x1 x3 v2 x5 x6 x7 u4 hfr hF
            · obtain ⟨v7, hF⟩ := fr_rd hF
              rcases fr_if hF with hF | hF
              · obtain ⟨v8, hF⟩ := fr_nm hF
                rcases fr_if hF with hF | hF
                · rcases fr_if hF with hF | hF
                  · exact hB117 ih12 hi12 x1 x3 v8 r3 x7 u4 hfr hF
                  · obtain ⟨v9, hF⟩ := fr_rd hF
                    rcases fr_if hF with hF | hF
                    · exact hB113 ih12 hi12 x1 x3 v8 r3 x7 u4 hfr hF
                    · exact hB117 ih12 hi12 x1 x3 v8 r3 x7 u4 hfr hF
                · exact hB113 ih12 hi12 x1 x3 v8 r3 x7 u4 hfr hF
              · exact hB120 ih12 hi12 x1 x3 v2 x5 x6 x7 u4 hfr hF
        · exact hB120 ih12 hi12 x1 x3 x4 x5 x6 x7 u hfr hF
  unfold fX11_needs at hF
  have hfr := Fr.rf wi_X11_needs wa_X11_needs wj_X11_needs u0
  exact hB12 N o1 o3 0 (-1) 0 o2 u0 hfr hF
abbrev wi_X11_freeBlocks : List Nat := []
abbrev wa_X11_freeBlocks : List Nat := []
abbrev wj_X11_freeBlocks : List Nat := []
set_option maxHeartbeats 4000000 in
set_option maxRecDepth 100000 in
theorem fr_X11_freeBlocks {N : Nat}  {u0 σ0 : q_St} {r0 : Int32} (hF : fX11_freeBlocks N u0 = some (r0, σ0)) : Fr wi_X11_freeBlocks wa_X11_freeBlocks wj_X11_freeBlocks u0 σ0 := by
  have hB30 : ∀ (ih7 : Int32 → Int32 → q_St → Option (Int32 × q_St)) (hi7 : ∀ (x1 : Int32) (x2 : Int32) (u : q_St), Fr wi_X11_freeBlocks wa_X11_freeBlocks wj_X11_freeBlocks u0 u → ih7 x1 x2 u = some (r0, σ0) → Fr wi_X11_freeBlocks wa_X11_freeBlocks wj_X11_freeBlocks u0 σ0), ∀ (x2 : Int32) (y0 : Int32) (y1 : Int32) (u : q_St), Fr wi_X11_freeBlocks wa_X11_freeBlocks wj_X11_freeBlocks u0 u → fX11_freeBlocks_b30 N ih7 x2 y0 y1 u = some (r0, σ0) → Fr wi_X11_freeBlocks wa_X11_freeBlocks wj_X11_freeBlocks u0 σ0 := by
    intro ih7 hi7 x2 y0 y1 u hfr hF
    unfold fX11_freeBlocks_b30 at hF
    obtain ⟨v3, hF⟩ := fr_nm hF
    obtain ⟨v4, hF⟩ := fr_nm hF
    exact hi7 v3 v4 u hfr hF
  have hB7 : ∀ (n : Nat) (x1 : Int32) (x2 : Int32) (u : q_St), Fr wi_X11_freeBlocks wa_X11_freeBlocks wj_X11_freeBlocks u0 u → q_lp (fX11_freeBlocks_b7 N) (fun _ _ _ => none) n x1 x2 u = some (r0, σ0) → Fr wi_X11_freeBlocks wa_X11_freeBlocks wj_X11_freeBlocks u0 σ0 := by
    intro n
    induction n with
    | zero => intro x1 x2 u hfr hF; exact absurd (show (none : Option (Int32 × q_St)) = some _ from hF) (fun h => nomatch h)
    | succ n hi7 =>
      intro x1 x2 u hfr hF
      obtain ⟨ih7, hih⟩ : ∃ q, q = q_lp (fX11_freeBlocks_b7 N) (fun _ _ _ => none) n := ⟨_, rfl⟩
      rw [← hih] at hi7
      have hF : fX11_freeBlocks_b7 N (q_lp (fX11_freeBlocks_b7 N) (fun _ _ _ => none) n) x1 x2 u = some (r0, σ0) := hF
      rw [← hih] at hF
      clear hih
      unfold fX11_freeBlocks_b7 at hF
      rcases fr_if hF with hF | hF
      · cases hF; exact hfr
      · obtain ⟨v2, hF⟩ := fr_rd hF
        rcases fr_if hF with hF | hF
        · exact hB30 ih7 hi7 x2 1 x1 u hfr hF
        · exact hB30 ih7 hi7 x2 0 x1 u hfr hF
  unfold fX11_freeBlocks at hF
  have hfr := Fr.rf wi_X11_freeBlocks wa_X11_freeBlocks wj_X11_freeBlocks u0
  obtain ⟨v1, hF⟩ := fr_nm hF
  exact hB7 N 0 v1 u0 hfr hF
abbrev wi_X11_soilTeller : List Nat := [25]
abbrev wa_X11_soilTeller : List Nat := [33]
abbrev wj_X11_soilTeller : List Nat := []
set_option maxHeartbeats 4000000 in
set_option maxRecDepth 100000 in
theorem fr_X11_soilTeller {N : Nat} {o1 : Int32} {o2 : Int32} {u0 σ0 : q_St} {r0 : Unit} (hF : fX11_soilTeller N o1 o2 u0 = some (r0, σ0)) : Fr wi_X11_soilTeller wa_X11_soilTeller wj_X11_soilTeller u0 σ0 := by
  unfold fX11_soilTeller at hF
  have hfr := Fr.rf wi_X11_soilTeller wa_X11_soilTeller wj_X11_soilTeller u0
  rcases fr_if hF with hF | hF
  · obtain ⟨r1, u2, hc3, hF⟩ := q_bnd_some hF
    have hfr := hfr.app (fr_X11_soilNode hc3) (by decide) (by decide) (by decide)
    cases hF; exact hfr
  · obtain ⟨v4, hF⟩ := fr_rd hF
    obtain ⟨r5, u6, hc7, hF⟩ := q_bnd_some hF
    have hfr := hfr.app (fr_X11_soil hc7) (by decide) (by decide) (by decide)
    cases hF; exact hfr
abbrev wi_X11_fillPiece : List Nat := [25]
abbrev wa_X11_fillPiece : List Nat := [9, 10, 17, 18, 33]
abbrev wj_X11_fillPiece : List Nat := []
set_option maxHeartbeats 4000000 in
set_option maxRecDepth 100000 in
theorem fr_X11_fillPiece {N : Nat} {o1 : Int32} {o2 : Int32} {u0 σ0 : q_St} {r0 : Unit} (hF : fX11_fillPiece N o1 o2 u0 = some (r0, σ0)) : Fr wi_X11_fillPiece wa_X11_fillPiece wj_X11_fillPiece u0 σ0 := by
  have hB88 : ∀ (x1 : Int32) (x2 : Int32) (x3 : Int32) (u : q_St), Fr wi_X11_fillPiece wa_X11_fillPiece wj_X11_fillPiece u0 u → fX11_fillPiece_b88 N x1 x2 x3 u = some (r0, σ0) → Fr wi_X11_fillPiece wa_X11_fillPiece wj_X11_fillPiece u0 σ0 := by
    intro x1 x2 x3 u hfr hF
    unfold fX11_fillPiece_b88 at hF
    obtain ⟨r4, u5, hc6, hF⟩ := q_bnd_some hF
    have hfr := hfr.app (fr_X11_takeBlock hc6) (by decide) (by decide) (by decide)
    obtain ⟨u7, hfr, hF⟩ := fr_wa hfr hF (by decide)
    rcases fr_if hF with hF | hF
    · obtain ⟨r12, u13, hc14, hF⟩ := q_bnd_some hF
      have hfr := hfr.app (fr_X11_soilNode hc14) (by decide) (by decide) (by decide)
      cases hF; exact hfr
    · obtain ⟨v8, hF⟩ := fr_rd hF
      obtain ⟨r9, u10, hc11, hF⟩ := q_bnd_some hF
      have hfr := hfr.app (fr_X11_soil hc11) (by decide) (by decide) (by decide)
      cases hF; exact hfr
  have hB66 : ∀ (x1 : Int32) (x2 : Int32) (x3 : Int32) (u : q_St), Fr wi_X11_fillPiece wa_X11_fillPiece wj_X11_fillPiece u0 u → fX11_fillPiece_b66 N x1 x2 x3 u = some (r0, σ0) → Fr wi_X11_fillPiece wa_X11_fillPiece wj_X11_fillPiece u0 σ0 := by
    intro x1 x2 x3 u hfr hF
    unfold fX11_fillPiece_b66 at hF
    obtain ⟨r16, u17, hc18, hF⟩ := q_bnd_some hF
    have hfr := hfr.app (fr_X11_takeBlock hc18) (by decide) (by decide) (by decide)
    obtain ⟨u19, hfr, hF⟩ := fr_wa hfr hF (by decide)
    obtain ⟨r20, u21, hc22, hF⟩ := q_bnd_some hF
    have hfr := hfr.app (fr_X11_soilTeller hc22) (by decide) (by decide) (by decide)
    exact hB88 x1 x2 x3 u21 hfr hF
  unfold fX11_fillPiece at hF
  have hfr := Fr.rf wi_X11_fillPiece wa_X11_fillPiece wj_X11_fillPiece u0
  obtain ⟨r1, u2, hc3, hF⟩ := q_bnd_some hF
  have hfr := hfr.app (fr_X11_indexOf hc3) (by decide) (by decide) (by decide)
  rcases fr_if hF with hF | hF
  · exact hB88 o1 o2 r1 u2 hfr hF
  · obtain ⟨v15, hF⟩ := fr_rd hF
    rcases fr_if hF with hF | hF
    · rcases fr_if hF with hF | hF
      · exact hB66 o1 o2 r1 u2 hfr hF
      · obtain ⟨v23, hF⟩ := fr_rd hF
        rcases fr_if hF with hF | hF
        · obtain ⟨r24, u25, hc26, hF⟩ := q_bnd_some hF
          have hfr := hfr.app (fr_X11_takeBlock hc26) (by decide) (by decide) (by decide)
          obtain ⟨u27, hfr, hF⟩ := fr_wa hfr hF (by decide)
          obtain ⟨r28, u29, hc30, hF⟩ := q_bnd_some hF
          have hfr := hfr.app (fr_X11_soilNode hc30) (by decide) (by decide) (by decide)
          exact hB66 o1 o2 r1 u29 hfr hF
        · exact hB66 o1 o2 r1 u2 hfr hF
    · exact hB88 o1 o2 r1 u2 hfr hF
abbrev wi_X11_put : List Nat := [9, 10, 11, 12, 13, 14, 15, 16, 17, 18, 19, 20, 21, 22, 23, 25, 26, 27]
abbrev wa_X11_put : List Nat := [0, 1, 2, 3, 4, 6, 9, 10, 17, 18, 19, 20, 21, 22, 23, 24, 25, 26, 27, 28, 29, 30, 31, 32, 33, 34]
abbrev wj_X11_put : List Nat := [1]
set_option maxHeartbeats 4000000 in
set_option maxRecDepth 100000 in
theorem fr_X11_put {N : Nat} {o1 : Int32} {o2 : Int32} {u0 σ0 : q_St} {r0 : Int32} (hF : fX11_put N o1 o2 u0 = some (r0, σ0)) : Fr wi_X11_put wa_X11_put wj_X11_put u0 σ0 := by
  have hB201 : ∀ (n : Nat) (x1 : Int32) (x2 : Int32) (x3 : Int32) (x5 : Int32) (u : q_St), Fr wi_X11_put wa_X11_put wj_X11_put u0 u → q_lp (fX11_put_b201 N) (fun _ _ _ _ _ => none) n x1 x2 x3 x5 u = some (r0, σ0) → Fr wi_X11_put wa_X11_put wj_X11_put u0 σ0 := by
    intro n
    induction n with
    | zero => intro x1 x2 x3 x5 u hfr hF; exact absurd (show (none : Option (Int32 × q_St)) = some _ from hF) (fun h => nomatch h)
    | succ n hi201 =>
      intro x1 x2 x3 x5 u hfr hF
      obtain ⟨ih201, hih⟩ : ∃ q, q = q_lp (fX11_put_b201 N) (fun _ _ _ _ _ => none) n := ⟨_, rfl⟩
      rw [← hih] at hi201
      have hF : fX11_put_b201 N (q_lp (fX11_put_b201 N) (fun _ _ _ _ _ => none) n) x1 x2 x3 x5 u = some (r0, σ0) := hF
      rw [← hih] at hF
      clear hih
      unfold fX11_put_b201 at hF
      rcases fr_if hF with hF | hF
      · cases hF; exact hfr
      · obtain ⟨r14, u15, hc16, hF⟩ := q_bnd_some hF
        have hfr := hfr.app (fr_X11_sectorOf hc16) (by decide) (by decide) (by decide)
        obtain ⟨v17, hF⟩ := fr_rd hF
        obtain ⟨u18, hfr, hF⟩ := fr_wa hfr hF (by decide)
        obtain ⟨r19, u20, hc21, hF⟩ := q_bnd_some hF
        have hfr := hfr.app (fr_X11_soil hc21) (by decide) (by decide) (by decide)
        obtain ⟨v22, hF⟩ := fr_nm hF
        exact hi201 x1 x2 x3 v22 u20 hfr hF
  have hB198 : ∀ (x1 : Int32) (x2 : Int32) (x3 : Int32) (u : q_St), Fr wi_X11_put wa_X11_put wj_X11_put u0 u → fX11_put_b198 N x1 x2 x3 u = some (r0, σ0) → Fr wi_X11_put wa_X11_put wj_X11_put u0 σ0 := by
    intro x1 x2 x3 u hfr hF
    unfold fX11_put_b198 at hF
    exact hB201 N x1 x2 x3 0 u hfr hF
  have hB166 : ∀ (ih135 : Int32 → Int32 → Int32 → Int32 → Int32 → q_St → Option (Int32 × q_St)) (hi135 : ∀ (x1 : Int32) (x2 : Int32) (x3 : Int32) (x5 : Int32) (x6 : Int32) (u : q_St), Fr wi_X11_put wa_X11_put wj_X11_put u0 u → ih135 x1 x2 x3 x5 x6 u = some (r0, σ0) → Fr wi_X11_put wa_X11_put wj_X11_put u0 σ0), ∀ (x1 : Int32) (x2 : Int32) (x3 : Int32) (x5 : Int32) (x6 : Int32) (u : q_St), Fr wi_X11_put wa_X11_put wj_X11_put u0 u → fX11_put_b166 N ih135 x1 x2 x3 x5 x6 u = some (r0, σ0) → Fr wi_X11_put wa_X11_put wj_X11_put u0 σ0 := by
    intro ih135 hi135 x1 x2 x3 x5 x6 u hfr hF
    unfold fX11_put_b166 at hF
    obtain ⟨v37, hF⟩ := fr_nm hF
    exact hi135 x1 x2 x3 x5 v37 u hfr hF
  have hB135 : ∀ (n : Nat) (x1 : Int32) (x2 : Int32) (x3 : Int32) (x5 : Int32) (x6 : Int32) (u : q_St), Fr wi_X11_put wa_X11_put wj_X11_put u0 u → q_lp (fX11_put_b135 N) (fun _ _ _ _ _ _ => none) n x1 x2 x3 x5 x6 u = some (r0, σ0) → Fr wi_X11_put wa_X11_put wj_X11_put u0 σ0 := by
    intro n
    induction n with
    | zero => intro x1 x2 x3 x5 x6 u hfr hF; exact absurd (show (none : Option (Int32 × q_St)) = some _ from hF) (fun h => nomatch h)
    | succ n hi135 =>
      intro x1 x2 x3 x5 x6 u hfr hF
      obtain ⟨ih135, hih⟩ : ∃ q, q = q_lp (fX11_put_b135 N) (fun _ _ _ _ _ _ => none) n := ⟨_, rfl⟩
      rw [← hih] at hi135
      have hF : fX11_put_b135 N (q_lp (fX11_put_b135 N) (fun _ _ _ _ _ _ => none) n) x1 x2 x3 x5 x6 u = some (r0, σ0) := hF
      rw [← hih] at hF
      clear hih
      unfold fX11_put_b135 at hF
      rcases fr_if hF with hF | hF
      · obtain ⟨v31, hF⟩ := fr_rd hF
        rcases fr_if hF with hF | hF
        · exact hB198 x1 x2 x3 u hfr hF
        · obtain ⟨u32, hfr, hF⟩ := fr_wa hfr hF (by decide)
          obtain ⟨r33, u34, hc35, hF⟩ := q_bnd_some hF
          have hfr := hfr.app (fr_X11_soilNode hc35) (by decide) (by decide) (by decide)
          exact hB198 x1 x2 x3 u34 hfr hF
      · obtain ⟨v36, hF⟩ := fr_rd hF
        rcases fr_if hF with hF | hF
        · obtain ⟨r38, u39, hc40, hF⟩ := q_bnd_some hF
          have hfr := hfr.app (fr_X11_fillPiece hc40) (by decide) (by decide) (by decide)
          exact hB166 ih135 hi135 x1 x2 x3 x5 x6 u39 hfr hF
        · exact hB166 ih135 hi135 x1 x2 x3 x5 x6 u hfr hF
  have hB65 : ∀ (x1 : Int32) (x2 : Int32) (x3 : Int32) (y0 : Int32) (u : q_St), Fr wi_X11_put wa_X11_put wj_X11_put u0 u → fX11_put_b65 N x1 x2 x3 y0 u = some (r0, σ0) → Fr wi_X11_put wa_X11_put wj_X11_put u0 σ0 := by
    intro x1 x2 x3 y0 u hfr hF
    unfold fX11_put_b65 at hF
    rcases fr_if hF with hF | hF
    · cases hF; exact hfr
    · rcases fr_if hF with hF | hF
      · rcases fr_if hF with hF | hF
        · cases hF; exact hfr
        · obtain ⟨v13, hF⟩ := fr_rd hF
          rcases fr_if hF with hF | hF
          · obtain ⟨v23, hF⟩ := fr_nm hF
            obtain ⟨r24, u25, hc26, hF⟩ := q_bnd_some hF
            have hfr := hfr.app (fr_X11_needs hc26) (by decide) (by decide) (by decide)
            obtain ⟨r27, u28, hc29, hF⟩ := q_bnd_some hF
            have hfr := hfr.app (fr_X11_freeBlocks hc29) (by decide) (by decide) (by decide)
            rcases fr_if hF with hF | hF
            · obtain ⟨v30, hF⟩ := fr_nm hF
              exact hB135 N x1 x2 x3 v23 v30 u28 hfr hF
            · cases hF; exact hfr
          · exact hB198 x1 x2 x3 u hfr hF
      · cases hF; exact hfr
  unfold fX11_put at hF
  have hfr := Fr.rf wi_X11_put wa_X11_put wj_X11_put u0
  obtain ⟨v1, hF⟩ := fr_nm hF
  obtain ⟨u2, hfr, hF⟩ := fr_si hfr hF (by decide)
  obtain ⟨r3, u4, hc5, hF⟩ := q_bnd_some hF
  have hfr := hfr.app (fr_X11_begins hc5) (by decide) (by decide) (by decide)
  rcases fr_if hF with hF | hF
  · cases hF; exact hfr
  · obtain ⟨r6, u7, hc8, hF⟩ := q_bnd_some hF
    have hfr := hfr.app (fr_X11_isFile hc8) (by decide) (by decide) (by decide)
    rcases fr_if hF with hF | hF
    · cases hF; exact hfr
    · obtain ⟨r9, u10, hc11, hF⟩ := q_bnd_some hF
      have hfr := hfr.app (fr_X11_may hc11) (by decide) (by decide) (by decide)
      rcases fr_if hF with hF | hF
      · cases hF; exact hfr
      · obtain ⟨v12, hF⟩ := fr_rd hF
        rcases fr_if hF with hF | hF
        · obtain ⟨v41, hF⟩ := fr_rd hF
          exact hB65 o1 o2 v1 v41 u10 hfr hF
        · exact hB65 o1 o2 v1 68352 u10 hfr hF
abbrev wi_X11_wash : List Nat := [25]
abbrev wa_X11_wash : List Nat := [33]
abbrev wj_X11_wash : List Nat := []
set_option maxHeartbeats 4000000 in
set_option maxRecDepth 100000 in
theorem fr_X11_wash {N : Nat} {o1 : Int32} {u0 σ0 : q_St} {r0 : Unit} (hF : fX11_wash N o1 u0 = some (r0, σ0)) : Fr wi_X11_wash wa_X11_wash wj_X11_wash u0 σ0 := by
  have hB19 : ∀ (x1 : Int32) (y0 : Int32) (y1 : Int32) (u : q_St), Fr wi_X11_wash wa_X11_wash wj_X11_wash u0 u → fX11_wash_b19 N x1 y0 y1 u = some (r0, σ0) → Fr wi_X11_wash wa_X11_wash wj_X11_wash u0 σ0 := by
    intro x1 y0 y1 u hfr hF
    unfold fX11_wash_b19 at hF
    obtain ⟨u2, hfr, hF⟩ := fr_si hfr hF (by decide)
    obtain ⟨u3, hfr, hF⟩ := fr_wa hfr hF (by decide)
    cases hF; exact hfr
  unfold fX11_wash at hF
  have hfr := Fr.rf wi_X11_wash wa_X11_wash wj_X11_wash u0
  obtain ⟨v1, hF⟩ := fr_rd hF
  rcases fr_if hF with hF | hF
  · exact hB19 o1 0 (q_i u0 25) u0 hfr hF
  · exact hB19 o1 1 (q_i u0 25) u0 hfr hF
abbrev wi_X11_giveBlock : List Nat := [25]
abbrev wa_X11_giveBlock : List Nat := [17, 33]
abbrev wj_X11_giveBlock : List Nat := []
set_option maxHeartbeats 4000000 in
set_option maxRecDepth 100000 in
theorem fr_X11_giveBlock {N : Nat} {o1 : Int32} {u0 σ0 : q_St} {r0 : Unit} (hF : fX11_giveBlock N o1 u0 = some (r0, σ0)) : Fr wi_X11_giveBlock wa_X11_giveBlock wj_X11_giveBlock u0 σ0 := by
  unfold fX11_giveBlock at hF
  have hfr := Fr.rf wi_X11_giveBlock wa_X11_giveBlock wj_X11_giveBlock u0
  obtain ⟨u1, hfr, hF⟩ := fr_wa hfr hF (by decide)
  obtain ⟨r2, u3, hc4, hF⟩ := q_bnd_some hF
  have hfr := hfr.app (fr_X11_soilMap hc4) (by decide) (by decide) (by decide)
  obtain ⟨r5, u6, hc7, hF⟩ := q_bnd_some hF
  have hfr := hfr.app (fr_X11_wash hc7) (by decide) (by decide) (by decide)
  cases hF; exact hfr
abbrev wi_X11_tellsSome : List Nat := []
abbrev wa_X11_tellsSome : List Nat := []
abbrev wj_X11_tellsSome : List Nat := []
set_option maxHeartbeats 4000000 in
set_option maxRecDepth 100000 in
theorem fr_X11_tellsSome {N : Nat} {o1 : Int32} {o2 : Int32} {u0 σ0 : q_St} {r0 : Int32} (hF : fX11_tellsSome N o1 o2 u0 = some (r0, σ0)) : Fr wi_X11_tellsSome wa_X11_tellsSome wj_X11_tellsSome u0 σ0 := by
  have hB22 : ∀ (n : Nat) (x1 : Int32) (x3 : Int32) (x4 : Int32) (u : q_St), Fr wi_X11_tellsSome wa_X11_tellsSome wj_X11_tellsSome u0 u → q_lp (fX11_tellsSome_b22 N) (fun _ _ _ _ => none) n x1 x3 x4 u = some (r0, σ0) → Fr wi_X11_tellsSome wa_X11_tellsSome wj_X11_tellsSome u0 σ0 := by
    intro n
    induction n with
    | zero => intro x1 x3 x4 u hfr hF; exact absurd (show (none : Option (Int32 × q_St)) = some _ from hF) (fun h => nomatch h)
    | succ n hi22 =>
      intro x1 x3 x4 u hfr hF
      obtain ⟨ih22, hih⟩ : ∃ q, q = q_lp (fX11_tellsSome_b22 N) (fun _ _ _ _ => none) n := ⟨_, rfl⟩
      rw [← hih] at hi22
      have hF : fX11_tellsSome_b22 N (q_lp (fX11_tellsSome_b22 N) (fun _ _ _ _ => none) n) x1 x3 x4 u = some (r0, σ0) := hF
      rw [← hih] at hF
      clear hih
      unfold fX11_tellsSome_b22 at hF
      rcases fr_if hF with hF | hF
      · cases hF; exact hfr
      · obtain ⟨v1, hF⟩ := fr_rd hF
        rcases fr_if hF with hF | hF
        · obtain ⟨v2, hF⟩ := fr_nm hF
          exact hi22 x1 x3 v2 u hfr hF
        · cases hF; exact hfr
  have hB18 : ∀ (x1 : Int32) (y0 : Int32) (u : q_St), Fr wi_X11_tellsSome wa_X11_tellsSome wj_X11_tellsSome u0 u → fX11_tellsSome_b18 N x1 y0 u = some (r0, σ0) → Fr wi_X11_tellsSome wa_X11_tellsSome wj_X11_tellsSome u0 σ0 := by
    intro x1 y0 u hfr hF
    unfold fX11_tellsSome_b18 at hF
    exact hB22 N x1 y0 y0 u hfr hF
  unfold fX11_tellsSome at hF
  have hfr := Fr.rf wi_X11_tellsSome wa_X11_tellsSome wj_X11_tellsSome u0
  rcases fr_if hF with hF | hF
  · exact hB18 o1 12 u0 hfr hF
  · exact hB18 o1 (44 + (32 * (o2 - 2))) u0 hfr hF
abbrev wi_X11_prune : List Nat := [25]
abbrev wa_X11_prune : List Nat := [10, 17, 33]
abbrev wj_X11_prune : List Nat := []
set_option maxHeartbeats 4000000 in
set_option maxRecDepth 100000 in
theorem fr_X11_prune {N : Nat} {o1 : Int32} {u0 σ0 : q_St} {r0 : Int32} (hF : fX11_prune N o1 u0 = some (r0, σ0)) : Fr wi_X11_prune wa_X11_prune wj_X11_prune u0 σ0 := by
  have hB101 : ∀ (ih7 : Int32 → Int32 → Int32 → Int32 → q_St → Option (Int32 × q_St)) (hi7 : ∀ (x1 : Int32) (x2 : Int32) (x3 : Int32) (x4 : Int32) (u : q_St), Fr wi_X11_prune wa_X11_prune wj_X11_prune u0 u → ih7 x1 x2 x3 x4 u = some (r0, σ0) → Fr wi_X11_prune wa_X11_prune wj_X11_prune u0 σ0), ∀ (x1 : Int32) (x2 : Int32) (x3 : Int32) (x4 : Int32) (u : q_St), Fr wi_X11_prune wa_X11_prune wj_X11_prune u0 u → fX11_prune_b101 N ih7 x1 x2 x3 x4 u = some (r0, σ0) → Fr wi_X11_prune wa_X11_prune wj_X11_prune u0 σ0 := by
    intro ih7 hi7 x1 x2 x3 x4 u hfr hF
    unfold fX11_prune_b101 at hF
    obtain ⟨v10, hF⟩ := fr_nm hF
    exact hi7 x1 x2 x3 v10 u hfr hF
  have hB68 : ∀ (ih7 : Int32 → Int32 → Int32 → Int32 → q_St → Option (Int32 × q_St)) (hi7 : ∀ (x1 : Int32) (x2 : Int32) (x3 : Int32) (x4 : Int32) (u : q_St), Fr wi_X11_prune wa_X11_prune wj_X11_prune u0 u → ih7 x1 x2 x3 x4 u = some (r0, σ0) → Fr wi_X11_prune wa_X11_prune wj_X11_prune u0 σ0), ∀ (x1 : Int32) (x2 : Int32) (x4 : Int32) (y0 : Int32) (u : q_St), Fr wi_X11_prune wa_X11_prune wj_X11_prune u0 u → fX11_prune_b68 N ih7 x1 x2 x4 y0 u = some (r0, σ0) → Fr wi_X11_prune wa_X11_prune wj_X11_prune u0 σ0 := by
    intro ih7 hi7 x1 x2 x4 y0 u hfr hF
    unfold fX11_prune_b68 at hF
    exact hB101 ih7 hi7 x1 x2 y0 x4 u hfr hF
  have hB63 : ∀ (ih7 : Int32 → Int32 → Int32 → Int32 → q_St → Option (Int32 × q_St)) (hi7 : ∀ (x1 : Int32) (x2 : Int32) (x3 : Int32) (x4 : Int32) (u : q_St), Fr wi_X11_prune wa_X11_prune wj_X11_prune u0 u → ih7 x1 x2 x3 x4 u = some (r0, σ0) → Fr wi_X11_prune wa_X11_prune wj_X11_prune u0 σ0), ∀ (x1 : Int32) (x2 : Int32) (x4 : Int32) (u : q_St), Fr wi_X11_prune wa_X11_prune wj_X11_prune u0 u → fX11_prune_b63 N ih7 x1 x2 x4 u = some (r0, σ0) → Fr wi_X11_prune wa_X11_prune wj_X11_prune u0 σ0 := by
    intro ih7 hi7 x1 x2 x4 u hfr hF
    unfold fX11_prune_b63 at hF
    exact hB68 ih7 hi7 x1 x2 x4 1 u hfr hF
  have hB7 : ∀ (n : Nat) (x1 : Int32) (x2 : Int32) (x3 : Int32) (x4 : Int32) (u : q_St), Fr wi_X11_prune wa_X11_prune wj_X11_prune u0 u → q_lp (fX11_prune_b7 N) (fun _ _ _ _ _ => none) n x1 x2 x3 x4 u = some (r0, σ0) → Fr wi_X11_prune wa_X11_prune wj_X11_prune u0 σ0 := by
    intro n
    induction n with
    | zero => intro x1 x2 x3 x4 u hfr hF; exact absurd (show (none : Option (Int32 × q_St)) = some _ from hF) (fun h => nomatch h)
    | succ n hi7 =>
      intro x1 x2 x3 x4 u hfr hF
      obtain ⟨ih7, hih⟩ : ∃ q, q = q_lp (fX11_prune_b7 N) (fun _ _ _ _ _ => none) n := ⟨_, rfl⟩
      rw [← hih] at hi7
      have hF : fX11_prune_b7 N (q_lp (fX11_prune_b7 N) (fun _ _ _ _ _ => none) n) x1 x2 x3 x4 u = some (r0, σ0) := hF
      rw [← hih] at hF
      clear hih
      unfold fX11_prune_b7 at hF
      rcases fr_if hF with hF | hF
      · obtain ⟨v1, hF⟩ := fr_rd hF
        rcases fr_if hF with hF | hF
        · cases hF; exact hfr
        · rcases fr_if hF with hF | hF
          · obtain ⟨r2, u3, hc4, hF⟩ := q_bnd_some hF
            have hfr := hfr.app (fr_X11_soilNode hc4) (by decide) (by decide) (by decide)
            obtain ⟨u5, hfr, hF⟩ := fr_wa hfr hF (by decide)
            obtain ⟨r6, u7, hc8, hF⟩ := q_bnd_some hF
            have hfr := hfr.app (fr_X11_giveBlock hc8) (by decide) (by decide) (by decide)
            cases hF; exact hfr
          · cases hF; exact hfr
      · obtain ⟨v9, hF⟩ := fr_rd hF
        rcases fr_if hF with hF | hF
        · exact hB101 ih7 hi7 x1 x2 x3 x4 u hfr hF
        · rcases fr_if hF with hF | hF
          · exact hB101 ih7 hi7 x1 x2 x3 x4 u hfr hF
          · obtain ⟨r11, u12, hc13, hF⟩ := q_bnd_some hF
            have hfr := hfr.app (fr_X11_tellsSome hc13) (by decide) (by decide) (by decide)
            rcases fr_if hF with hF | hF
            · obtain ⟨r14, u15, hc16, hF⟩ := q_bnd_some hF
              have hfr := hfr.app (fr_X11_soilTeller hc16) (by decide) (by decide) (by decide)
              obtain ⟨u17, hfr, hF⟩ := fr_wa hfr hF (by decide)
              obtain ⟨r18, u19, hc20, hF⟩ := q_bnd_some hF
              have hfr := hfr.app (fr_X11_giveBlock hc20) (by decide) (by decide) (by decide)
              obtain ⟨v21, hF⟩ := fr_nm hF
              exact hB101 ih7 hi7 x1 v21 x3 x4 u19 hfr hF
            · rcases fr_if hF with hF | hF
              · rcases fr_if hF with hF | hF
                · exact hB68 ih7 hi7 x1 x2 x4 0 u12 hfr hF
                · exact hB63 ih7 hi7 x1 x2 x4 u12 hfr hF
              · exact hB63 ih7 hi7 x1 x2 x4 u12 hfr hF
  unfold fX11_prune at hF
  have hfr := Fr.rf wi_X11_prune wa_X11_prune wj_X11_prune u0
  exact hB7 N o1 0 0 0 u0 hfr hF
abbrev wi_X11_shrink : List Nat := [25]
abbrev wa_X11_shrink : List Nat := [9, 10, 17, 33]
abbrev wj_X11_shrink : List Nat := []
set_option maxHeartbeats 4000000 in
set_option maxRecDepth 100000 in
theorem fr_X11_shrink {N : Nat} {o1 : Int32} {o2 : Int32} {u0 σ0 : q_St} {r0 : Int32} (hF : fX11_shrink N o1 o2 u0 = some (r0, σ0)) : Fr wi_X11_shrink wa_X11_shrink wj_X11_shrink u0 σ0 := by
  have hB97 : ∀ (ih5 : Int32 → Int32 → Int32 → q_St → Option (Int32 × q_St)) (hi5 : ∀ (x1 : Int32) (x3 : Int32) (x4 : Int32) (u : q_St), Fr wi_X11_shrink wa_X11_shrink wj_X11_shrink u0 u → ih5 x1 x3 x4 u = some (r0, σ0) → Fr wi_X11_shrink wa_X11_shrink wj_X11_shrink u0 σ0), ∀ (x1 : Int32) (x3 : Int32) (x4 : Int32) (u : q_St), Fr wi_X11_shrink wa_X11_shrink wj_X11_shrink u0 u → fX11_shrink_b97 N ih5 x1 x3 x4 u = some (r0, σ0) → Fr wi_X11_shrink wa_X11_shrink wj_X11_shrink u0 σ0 := by
    intro ih5 hi5 x1 x3 x4 u hfr hF
    unfold fX11_shrink_b97 at hF
    obtain ⟨v17, hF⟩ := fr_nm hF
    exact hi5 x1 x3 v17 u hfr hF
  have hB74 : ∀ (ih5 : Int32 → Int32 → Int32 → q_St → Option (Int32 × q_St)) (hi5 : ∀ (x1 : Int32) (x3 : Int32) (x4 : Int32) (u : q_St), Fr wi_X11_shrink wa_X11_shrink wj_X11_shrink u0 u → ih5 x1 x3 x4 u = some (r0, σ0) → Fr wi_X11_shrink wa_X11_shrink wj_X11_shrink u0 σ0), ∀ (x1 : Int32) (x3 : Int32) (x4 : Int32) (x5 : Int32) (u : q_St), Fr wi_X11_shrink wa_X11_shrink wj_X11_shrink u0 u → fX11_shrink_b74 N ih5 x1 x3 x4 x5 u = some (r0, σ0) → Fr wi_X11_shrink wa_X11_shrink wj_X11_shrink u0 σ0 := by
    intro ih5 hi5 x1 x3 x4 x5 u hfr hF
    unfold fX11_shrink_b74 at hF
    obtain ⟨u12, hfr, hF⟩ := fr_wa hfr hF (by decide)
    obtain ⟨r13, u14, hc15, hF⟩ := q_bnd_some hF
    have hfr := hfr.app (fr_X11_giveBlock hc15) (by decide) (by decide) (by decide)
    obtain ⟨v16, hF⟩ := fr_nm hF
    exact hB97 ih5 hi5 x1 v16 x4 u14 hfr hF
  have hB5 : ∀ (n : Nat) (x1 : Int32) (x3 : Int32) (x4 : Int32) (u : q_St), Fr wi_X11_shrink wa_X11_shrink wj_X11_shrink u0 u → q_lp (fX11_shrink_b5 N) (fun _ _ _ _ => none) n x1 x3 x4 u = some (r0, σ0) → Fr wi_X11_shrink wa_X11_shrink wj_X11_shrink u0 σ0 := by
    intro n
    induction n with
    | zero => intro x1 x3 x4 u hfr hF; exact absurd (show (none : Option (Int32 × q_St)) = some _ from hF) (fun h => nomatch h)
    | succ n hi5 =>
      intro x1 x3 x4 u hfr hF
      obtain ⟨ih5, hih⟩ : ∃ q, q = q_lp (fX11_shrink_b5 N) (fun _ _ _ _ => none) n := ⟨_, rfl⟩
      rw [← hih] at hi5
      have hF : fX11_shrink_b5 N (q_lp (fX11_shrink_b5 N) (fun _ _ _ _ => none) n) x1 x3 x4 u = some (r0, σ0) := hF
      rw [← hih] at hF
      clear hih
      unfold fX11_shrink_b5 at hF
      rcases fr_if hF with hF | hF
      · obtain ⟨r1, u2, hc3, hF⟩ := q_bnd_some hF
        have hfr := hfr.app (fr_X11_prune hc3) (by decide) (by decide) (by decide)
        cases hF; exact hfr
      · obtain ⟨v4, hF⟩ := fr_rd hF
        rcases fr_if hF with hF | hF
        · exact hB97 ih5 hi5 x1 x3 x4 u hfr hF
        · obtain ⟨r5, u6, hc7, hF⟩ := q_bnd_some hF
          have hfr := hfr.app (fr_X11_indexOf hc7) (by decide) (by decide) (by decide)
          rcases fr_if hF with hF | hF
          · obtain ⟨r18, u19, hc20, hF⟩ := q_bnd_some hF
            have hfr := hfr.app (fr_X11_soilNode hc20) (by decide) (by decide) (by decide)
            exact hB74 ih5 hi5 x1 x3 x4 v4 u19 hfr hF
          · obtain ⟨v8, hF⟩ := fr_rd hF
            obtain ⟨r9, u10, hc11, hF⟩ := q_bnd_some hF
            have hfr := hfr.app (fr_X11_soil hc11) (by decide) (by decide) (by decide)
            exact hB74 ih5 hi5 x1 x3 x4 v4 u10 hfr hF
  unfold fX11_shrink at hF
  have hfr := Fr.rf wi_X11_shrink wa_X11_shrink wj_X11_shrink u0
  exact hB5 N o1 0 o2 u0 hfr hF
abbrev wi_X11_cut : List Nat := [9, 10, 11, 12, 13, 14, 15, 16, 17, 18, 19, 20, 21, 22, 23, 25, 26]
abbrev wa_X11_cut : List Nat := [0, 1, 2, 3, 4, 6, 9, 10, 17, 18, 19, 20, 21, 22, 23, 24, 25, 26, 27, 28, 29, 30, 31, 32, 33, 34]
abbrev wj_X11_cut : List Nat := [1]
set_option maxHeartbeats 4000000 in
set_option maxRecDepth 100000 in
theorem fr_X11_cut {N : Nat} {o1 : Int32} {o2 : Int32} {u0 σ0 : q_St} {r0 : Int32} (hF : fX11_cut N o1 o2 u0 = some (r0, σ0)) : Fr wi_X11_cut wa_X11_cut wj_X11_cut u0 σ0 := by
  have hB155 : ∀ (x1 : Int32) (x2 : Int32) (x3 : Int32) (u : q_St), Fr wi_X11_cut wa_X11_cut wj_X11_cut u0 u → fX11_cut_b155 N x1 x2 x3 u = some (r0, σ0) → Fr wi_X11_cut wa_X11_cut wj_X11_cut u0 σ0 := by
    intro x1 x2 x3 u hfr hF
    unfold fX11_cut_b155 at hF
    obtain ⟨u16, hfr, hF⟩ := fr_wa hfr hF (by decide)
    obtain ⟨r17, u18, hc19, hF⟩ := q_bnd_some hF
    have hfr := hfr.app (fr_X11_soilNode hc19) (by decide) (by decide) (by decide)
    cases hF; exact hfr
  have hB122 : ∀ (n : Nat) (x1 : Int32) (x2 : Int32) (x3 : Int32) (x4 : Int32) (x5 : Int32) (u : q_St), Fr wi_X11_cut wa_X11_cut wj_X11_cut u0 u → q_lp (fX11_cut_b122 N) (fun _ _ _ _ _ _ => none) n x1 x2 x3 x4 x5 u = some (r0, σ0) → Fr wi_X11_cut wa_X11_cut wj_X11_cut u0 σ0 := by
    intro n
    induction n with
    | zero => intro x1 x2 x3 x4 x5 u hfr hF; exact absurd (show (none : Option (Int32 × q_St)) = some _ from hF) (fun h => nomatch h)
    | succ n hi122 =>
      intro x1 x2 x3 x4 x5 u hfr hF
      obtain ⟨ih122, hih⟩ : ∃ q, q = q_lp (fX11_cut_b122 N) (fun _ _ _ _ _ _ => none) n := ⟨_, rfl⟩
      rw [← hih] at hi122
      have hF : fX11_cut_b122 N (q_lp (fX11_cut_b122 N) (fun _ _ _ _ _ _ => none) n) x1 x2 x3 x4 x5 u = some (r0, σ0) := hF
      rw [← hih] at hF
      clear hih
      unfold fX11_cut_b122 at hF
      rcases fr_if hF with hF | hF
      · obtain ⟨r21, u22, hc23, hF⟩ := q_bnd_some hF
        have hfr := hfr.app (fr_X11_soil hc23) (by decide) (by decide) (by decide)
        exact hB155 x1 x2 x3 u22 hfr hF
      · obtain ⟨u24, hfr, hF⟩ := fr_wa hfr hF (by decide)
        obtain ⟨v25, hF⟩ := fr_nm hF
        exact hi122 x1 x2 x3 x4 v25 u24 hfr hF
  have hB102 : ∀ (x1 : Int32) (x2 : Int32) (x3 : Int32) (y0 : Int32) (u : q_St), Fr wi_X11_cut wa_X11_cut wj_X11_cut u0 u → fX11_cut_b102 N x1 x2 x3 y0 u = some (r0, σ0) → Fr wi_X11_cut wa_X11_cut wj_X11_cut u0 σ0 := by
    intro x1 x2 x3 y0 u hfr hF
    unfold fX11_cut_b102 at hF
    rcases fr_if hF with hF | hF
    · exact hB155 x1 x2 x3 u hfr hF
    · obtain ⟨v20, hF⟩ := fr_nm hF
      exact hB122 N x1 x2 x3 y0 v20 u hfr hF
  unfold fX11_cut at hF
  have hfr := Fr.rf wi_X11_cut wa_X11_cut wj_X11_cut u0
  obtain ⟨r1, u2, hc3, hF⟩ := q_bnd_some hF
  have hfr := hfr.app (fr_X11_begins hc3) (by decide) (by decide) (by decide)
  rcases fr_if hF with hF | hF
  · cases hF; exact hfr
  · obtain ⟨r4, u5, hc6, hF⟩ := q_bnd_some hF
    have hfr := hfr.app (fr_X11_isFile hc6) (by decide) (by decide) (by decide)
    rcases fr_if hF with hF | hF
    · cases hF; exact hfr
    · obtain ⟨r7, u8, hc9, hF⟩ := q_bnd_some hF
      have hfr := hfr.app (fr_X11_may hc9) (by decide) (by decide) (by decide)
      rcases fr_if hF with hF | hF
      · cases hF; exact hfr
      · rcases fr_if hF with hF | hF
        · cases hF; exact hfr
        · obtain ⟨v10, hF⟩ := fr_rd hF
          rcases fr_if hF with hF | hF
          · obtain ⟨v11, hF⟩ := fr_rd hF
            rcases fr_if hF with hF | hF
            · cases hF; exact hfr
            · obtain ⟨r12, u13, hc14, hF⟩ := q_bnd_some hF
              have hfr := hfr.app (fr_X11_shrink hc14) (by decide) (by decide) (by decide)
              rcases fr_if hF with hF | hF
              · exact hB102 o1 o2 r12 (-1) u13 hfr hF
              · obtain ⟨v15, hF⟩ := fr_rd hF
                exact hB102 o1 o2 r12 v15 u13 hfr hF
          · cases hF; exact hfr
abbrev wi_X11_undo : List Nat := [25]
abbrev wa_X11_undo : List Nat := [8, 17, 33]
abbrev wj_X11_undo : List Nat := []
set_option maxHeartbeats 4000000 in
set_option maxRecDepth 100000 in
theorem fr_X11_undo {N : Nat} {o1 : Int32} {u0 σ0 : q_St} {r0 : Int32} (hF : fX11_undo N o1 u0 = some (r0, σ0)) : Fr wi_X11_undo wa_X11_undo wj_X11_undo u0 σ0 := by
  have hB9 : ∀ (n : Nat) (x1 : Int32) (x2 : Int32) (x3 : Int32) (u : q_St), Fr wi_X11_undo wa_X11_undo wj_X11_undo u0 u → q_lp (fX11_undo_b9 N) (fun _ _ _ _ => none) n x1 x2 x3 u = some (r0, σ0) → Fr wi_X11_undo wa_X11_undo wj_X11_undo u0 σ0 := by
    intro n
    induction n with
    | zero => intro x1 x2 x3 u hfr hF; exact absurd (show (none : Option (Int32 × q_St)) = some _ from hF) (fun h => nomatch h)
    | succ n hi9 =>
      intro x1 x2 x3 u hfr hF
      obtain ⟨ih9, hih⟩ : ∃ q, q = q_lp (fX11_undo_b9 N) (fun _ _ _ _ => none) n := ⟨_, rfl⟩
      rw [← hih] at hi9
      have hF : fX11_undo_b9 N (q_lp (fX11_undo_b9 N) (fun _ _ _ _ => none) n) x1 x2 x3 u = some (r0, σ0) := hF
      rw [← hih] at hF
      clear hih
      unfold fX11_undo_b9 at hF
      rcases fr_if hF with hF | hF
      · obtain ⟨u2, hfr, hF⟩ := fr_wa hfr hF (by decide)
        cases hF; exact hfr
      · obtain ⟨v3, hF⟩ := fr_rd hF
        obtain ⟨r4, u5, hc6, hF⟩ := q_bnd_some hF
        have hfr := hfr.app (fr_X11_giveBlock hc6) (by decide) (by decide) (by decide)
        obtain ⟨v7, hF⟩ := fr_nm hF
        exact hi9 x1 x2 v7 u5 hfr hF
  unfold fX11_undo at hF
  have hfr := Fr.rf wi_X11_undo wa_X11_undo wj_X11_undo u0
  obtain ⟨v1, hF⟩ := fr_rd hF
  exact hB9 N o1 v1 0 u0 hfr hF
abbrev wi_X11_unlay : List Nat := [25]
abbrev wa_X11_unlay : List Nat := [17, 33]
abbrev wj_X11_unlay : List Nat := []
set_option maxHeartbeats 4000000 in
set_option maxRecDepth 100000 in
theorem fr_X11_unlay {N : Nat} {o1 : Int32} {u0 σ0 : q_St} {r0 : Int32} (hF : fX11_unlay N o1 u0 = some (r0, σ0)) : Fr wi_X11_unlay wa_X11_unlay wj_X11_unlay u0 σ0 := by
  have hB10 : ∀ (n : Nat) (x1 : Int32) (x2 : Int32) (u : q_St), Fr wi_X11_unlay wa_X11_unlay wj_X11_unlay u0 u → q_lp (fX11_unlay_b10 N) (fun _ _ _ => none) n x1 x2 u = some (r0, σ0) → Fr wi_X11_unlay wa_X11_unlay wj_X11_unlay u0 σ0 := by
    intro n
    induction n with
    | zero => intro x1 x2 u hfr hF; exact absurd (show (none : Option (Int32 × q_St)) = some _ from hF) (fun h => nomatch h)
    | succ n hi10 =>
      intro x1 x2 u hfr hF
      obtain ⟨ih10, hih⟩ : ∃ q, q = q_lp (fX11_unlay_b10 N) (fun _ _ _ => none) n := ⟨_, rfl⟩
      rw [← hih] at hi10
      have hF : fX11_unlay_b10 N (q_lp (fX11_unlay_b10 N) (fun _ _ _ => none) n) x1 x2 u = some (r0, σ0) := hF
      rw [← hih] at hF
      clear hih
      unfold fX11_unlay_b10 at hF
      obtain ⟨v2, hF⟩ := fr_rd hF
      rcases fr_if hF with hF | hF
      · cases hF; exact hfr
      · obtain ⟨r3, u4, hc5, hF⟩ := q_bnd_some hF
        have hfr := hfr.app (fr_X11_giveBlock hc5) (by decide) (by decide) (by decide)
        obtain ⟨v6, hF⟩ := fr_nm hF
        exact hi10 x1 v6 u4 hfr hF
  unfold fX11_unlay at hF
  have hfr := Fr.rf wi_X11_unlay wa_X11_unlay wj_X11_unlay u0
  obtain ⟨v1, hF⟩ := fr_rd hF
  exact hB10 N o1 v1 u0 hfr hF
abbrev wi_X11_dropSlot : List Nat := [25]
abbrev wa_X11_dropSlot : List Nat := [5, 8, 9, 10, 14, 15, 17, 33]
abbrev wj_X11_dropSlot : List Nat := []
set_option maxHeartbeats 4000000 in
set_option maxRecDepth 100000 in
theorem fr_X11_dropSlot {N : Nat} {o1 : Int32} {u0 σ0 : q_St} {r0 : Int32} (hF : fX11_dropSlot N o1 u0 = some (r0, σ0)) : Fr wi_X11_dropSlot wa_X11_dropSlot wj_X11_dropSlot u0 σ0 := by
  have hB87 : ∀ (x2 : Int32) (y0 : Int32) (u : q_St), Fr wi_X11_dropSlot wa_X11_dropSlot wj_X11_dropSlot u0 u → fX11_dropSlot_b87 N x2 y0 u = some (r0, σ0) → Fr wi_X11_dropSlot wa_X11_dropSlot wj_X11_dropSlot u0 σ0 := by
    intro x2 y0 u hfr hF
    unfold fX11_dropSlot_b87 at hF
    obtain ⟨u17, hfr, hF⟩ := fr_wa hfr hF (by decide)
    cases hF; exact hfr
  unfold fX11_dropSlot at hF
  have hfr := Fr.rf wi_X11_dropSlot wa_X11_dropSlot wj_X11_dropSlot u0
  obtain ⟨v1, hF⟩ := fr_rd hF
  obtain ⟨u2, hfr, hF⟩ := fr_wa hfr hF (by decide)
  obtain ⟨r3, u4, hc5, hF⟩ := q_bnd_some hF
  have hfr := hfr.app (fr_X11_soilSlot hc5) (by decide) (by decide) (by decide)
  obtain ⟨r6, u7, hc8, hF⟩ := q_bnd_some hF
  have hfr := hfr.app (fr_X11_soilNode hc8) (by decide) (by decide) (by decide)
  obtain ⟨v9, hF⟩ := fr_rd hF
  obtain ⟨u10, hfr, hF⟩ := fr_wa hfr hF (by decide)
  obtain ⟨v11, hF⟩ := fr_rd hF
  rcases fr_if hF with hF | hF
  · obtain ⟨v12, hF⟩ := fr_rd hF
    rcases fr_if hF with hF | hF
    · obtain ⟨r21, u22, hc23, hF⟩ := q_bnd_some hF
      have hfr := hfr.app (fr_X11_unlay hc23) (by decide) (by decide) (by decide)
      exact hB87 v1 r21 u22 hfr hF
    · obtain ⟨v13, hF⟩ := fr_rd hF
      rcases fr_if hF with hF | hF
      · obtain ⟨r18, u19, hc20, hF⟩ := q_bnd_some hF
        have hfr := hfr.app (fr_X11_undo hc20) (by decide) (by decide) (by decide)
        exact hB87 v1 r18 u19 hfr hF
      · obtain ⟨r14, u15, hc16, hF⟩ := q_bnd_some hF
        have hfr := hfr.app (fr_X11_shrink hc16) (by decide) (by decide) (by decide)
        exact hB87 v1 r14 u15 hfr hF
  · cases hF; exact hfr
abbrev wi_X11_names : List Nat := []
abbrev wa_X11_names : List Nat := []
abbrev wj_X11_names : List Nat := []
set_option maxHeartbeats 4000000 in
set_option maxRecDepth 100000 in
theorem fr_X11_names {N : Nat} {o1 : Int32} {u0 σ0 : q_St} {r0 : Int32} (hF : fX11_names N o1 u0 = some (r0, σ0)) : Fr wi_X11_names wa_X11_names wj_X11_names u0 σ0 := by
  have hB37 : ∀ (ih7 : Int32 → Int32 → Int32 → q_St → Option (Int32 × q_St)) (hi7 : ∀ (x1 : Int32) (x2 : Int32) (x3 : Int32) (u : q_St), Fr wi_X11_names wa_X11_names wj_X11_names u0 u → ih7 x1 x2 x3 u = some (r0, σ0) → Fr wi_X11_names wa_X11_names wj_X11_names u0 σ0), ∀ (x1 : Int32) (x3 : Int32) (y0 : Int32) (y1 : Int32) (u : q_St), Fr wi_X11_names wa_X11_names wj_X11_names u0 u → fX11_names_b37 N ih7 x1 x3 y0 y1 u = some (r0, σ0) → Fr wi_X11_names wa_X11_names wj_X11_names u0 σ0 := by
    intro ih7 hi7 x1 x3 y0 y1 u hfr hF
    unfold fX11_names_b37 at hF
    obtain ⟨v6, hF⟩ := fr_nm hF
    obtain ⟨v7, hF⟩ := fr_nm hF
    exact hi7 x1 v6 v7 u hfr hF
  have hB7 : ∀ (n : Nat) (x1 : Int32) (x2 : Int32) (x3 : Int32) (u : q_St), Fr wi_X11_names wa_X11_names wj_X11_names u0 u → q_lp (fX11_names_b7 N) (fun _ _ _ _ => none) n x1 x2 x3 u = some (r0, σ0) → Fr wi_X11_names wa_X11_names wj_X11_names u0 σ0 := by
    intro n
    induction n with
    | zero => intro x1 x2 x3 u hfr hF; exact absurd (show (none : Option (Int32 × q_St)) = some _ from hF) (fun h => nomatch h)
    | succ n hi7 =>
      intro x1 x2 x3 u hfr hF
      obtain ⟨ih7, hih⟩ : ∃ q, q = q_lp (fX11_names_b7 N) (fun _ _ _ _ => none) n := ⟨_, rfl⟩
      rw [← hih] at hi7
      have hF : fX11_names_b7 N (q_lp (fX11_names_b7 N) (fun _ _ _ _ => none) n) x1 x2 x3 u = some (r0, σ0) := hF
      rw [← hih] at hF
      clear hih
      unfold fX11_names_b7 at hF
      obtain ⟨r2, u3, hc4, hF⟩ := q_bnd_some hF
      have hfr := hfr.app (fr_X11_slots hc4) (by decide) (by decide) (by decide)
      rcases fr_if hF with hF | hF
      · cases hF; exact hfr
      · obtain ⟨v5, hF⟩ := fr_rd hF
        rcases fr_if hF with hF | hF
        · exact hB37 ih7 hi7 x1 x3 0 x2 u3 hfr hF
        · exact hB37 ih7 hi7 x1 x3 1 x2 u3 hfr hF
  unfold fX11_names at hF
  have hfr := Fr.rf wi_X11_names wa_X11_names wj_X11_names u0
  obtain ⟨v1, hF⟩ := fr_nm hF
  exact hB7 N o1 0 v1 u0 hfr hF
abbrev wi_X11_drop : List Nat := [9, 10, 11, 12, 13, 14, 15, 16, 17, 18, 19, 20, 21, 22, 23, 25, 26]
abbrev wa_X11_drop : List Nat := [0, 1, 2, 3, 4, 5, 8, 9, 10, 14, 15, 17, 19, 20, 21, 22, 23, 24, 25, 26, 27, 28, 29, 30, 31, 32, 33, 34]
abbrev wj_X11_drop : List Nat := [1]
set_option maxHeartbeats 4000000 in
set_option maxRecDepth 100000 in
theorem fr_X11_drop {N : Nat} {o1 : Int32} {o2 : Int64} {u0 σ0 : q_St} {r0 : Int32} (hF : fX11_drop N o1 o2 u0 = some (r0, σ0)) : Fr wi_X11_drop wa_X11_drop wj_X11_drop u0 σ0 := by
  have hB92 : ∀ (x4 : Int32) (u : q_St), Fr wi_X11_drop wa_X11_drop wj_X11_drop u0 u → fX11_drop_b92 N x4 u = some (r0, σ0) → Fr wi_X11_drop wa_X11_drop wj_X11_drop u0 σ0 := by
    intro x4 u hfr hF
    unfold fX11_drop_b92 at hF
    obtain ⟨r18, u19, hc20, hF⟩ := q_bnd_some hF
    have hfr := hfr.app (fr_X11_dropSlot hc20) (by decide) (by decide) (by decide)
    cases hF; exact hfr
  unfold fX11_drop at hF
  have hfr := Fr.rf wi_X11_drop wa_X11_drop wj_X11_drop u0
  obtain ⟨r1, u2, hc3, hF⟩ := q_bnd_some hF
  have hfr := hfr.app (fr_X11_begins hc3) (by decide) (by decide) (by decide)
  rcases fr_if hF with hF | hF
  · cases hF; exact hfr
  · obtain ⟨r4, u5, hc6, hF⟩ := q_bnd_some hF
    have hfr := hfr.app (fr_X11_isDirectory hc6) (by decide) (by decide) (by decide)
    rcases fr_if hF with hF | hF
    · cases hF; exact hfr
    · obtain ⟨r7, u8, hc9, hF⟩ := q_bnd_some hF
      have hfr := hfr.app (fr_X11_isName hc9) (by decide) (by decide) (by decide)
      rcases fr_if hF with hF | hF
      · cases hF; exact hfr
      · obtain ⟨r10, u11, hc12, hF⟩ := q_bnd_some hF
        have hfr := hfr.app (fr_X11_may hc12) (by decide) (by decide) (by decide)
        rcases fr_if hF with hF | hF
        · cases hF; exact hfr
        · obtain ⟨r13, u14, hc15, hF⟩ := q_bnd_some hF
          have hfr := hfr.app (fr_X11_slotOf hc15) (by decide) (by decide) (by decide)
          rcases fr_if hF with hF | hF
          · cases hF; exact hfr
          · obtain ⟨v16, hF⟩ := fr_rd hF
            obtain ⟨v17, hF⟩ := fr_rd hF
            rcases fr_if hF with hF | hF
            · obtain ⟨r21, u22, hc23, hF⟩ := q_bnd_some hF
              have hfr := hfr.app (fr_X11_names hc23) (by decide) (by decide) (by decide)
              rcases fr_if hF with hF | hF
              · exact hB92 r13 u22 hfr hF
              · cases hF; exact hfr
            · exact hB92 r13 u14 hfr hF
abbrev wi_X11_isIn : List Nat := []
abbrev wa_X11_isIn : List Nat := []
abbrev wj_X11_isIn : List Nat := []
set_option maxHeartbeats 4000000 in
set_option maxRecDepth 100000 in
theorem fr_X11_isIn {N : Nat} {o1 : Int32} {o2 : Int32} {u0 σ0 : q_St} {r0 : Int32} (hF : fX11_isIn N o1 o2 u0 = some (r0, σ0)) : Fr wi_X11_isIn wa_X11_isIn wj_X11_isIn u0 σ0 := by
  have hB21 : ∀ (x2 : Int32) (x3 : Int32) (u : q_St), Fr wi_X11_isIn wa_X11_isIn wj_X11_isIn u0 u → fX11_isIn_b21 N x2 x3 u = some (r0, σ0) → Fr wi_X11_isIn wa_X11_isIn wj_X11_isIn u0 σ0 := by
    intro x2 x3 u hfr hF
    unfold fX11_isIn_b21 at hF
    rcases fr_if hF with hF | hF
    · cases hF; exact hfr
    · cases hF; exact hfr
  have hB2 : ∀ (n : Nat) (x2 : Int32) (x3 : Int32) (u : q_St), Fr wi_X11_isIn wa_X11_isIn wj_X11_isIn u0 u → q_lp (fX11_isIn_b2 N) (fun _ _ _ => none) n x2 x3 u = some (r0, σ0) → Fr wi_X11_isIn wa_X11_isIn wj_X11_isIn u0 σ0 := by
    intro n
    induction n with
    | zero => intro x2 x3 u hfr hF; exact absurd (show (none : Option (Int32 × q_St)) = some _ from hF) (fun h => nomatch h)
    | succ n hi2 =>
      intro x2 x3 u hfr hF
      obtain ⟨ih2, hih⟩ : ∃ q, q = q_lp (fX11_isIn_b2 N) (fun _ _ _ => none) n := ⟨_, rfl⟩
      rw [← hih] at hi2
      have hF : fX11_isIn_b2 N (q_lp (fX11_isIn_b2 N) (fun _ _ _ => none) n) x2 x3 u = some (r0, σ0) := hF
      rw [← hih] at hF
      clear hih
      unfold fX11_isIn_b2 at hF
      rcases fr_if hF with hF | hF
      · exact hB21 x2 x3 u hfr hF
      · rcases fr_if hF with hF | hF
        · exact hB21 x2 x3 u hfr hF
        · obtain ⟨v1, hF⟩ := fr_rd hF
          exact hi2 x2 v1 u hfr hF
  unfold fX11_isIn at hF
  have hfr := Fr.rf wi_X11_isIn wa_X11_isIn wj_X11_isIn u0
  exact hB2 N o2 o1 u0 hfr hF
abbrev wi_X11_rename : List Nat := [9, 10, 11, 12, 13, 14, 15, 16, 17, 18, 19, 20, 21, 22, 23, 25, 26]
abbrev wa_X11_rename : List Nat := [0, 1, 2, 3, 4, 5, 7, 8, 9, 10, 13, 14, 15, 17, 18, 19, 20, 21, 22, 23, 24, 25, 26, 27, 28, 29, 30, 31, 32, 33, 34]
abbrev wj_X11_rename : List Nat := [0, 1]
set_option maxHeartbeats 4000000 in
set_option maxRecDepth 100000 in
theorem fr_X11_rename {N : Nat} {o1 : Int32} {o2 : Int64} {o4 : Int32} {o5 : Int64} {u0 σ0 : q_St} {r0 : Int32} (hF : fX11_rename N o1 o2 o4 o5 u0 = some (r0, σ0)) : Fr wi_X11_rename wa_X11_rename wj_X11_rename u0 σ0 := by
  have hB260 : ∀ (x1 : Int32) (x4 : Int32) (x5 : Int64) (x7 : Int32) (x8 : Int32) (u : q_St), Fr wi_X11_rename wa_X11_rename wj_X11_rename u0 u → fX11_rename_b260 N x1 x4 x5 x7 x8 u = some (r0, σ0) → Fr wi_X11_rename wa_X11_rename wj_X11_rename u0 σ0 := by
    intro x1 x4 x5 x7 x8 u hfr hF
    unfold fX11_rename_b260 at hF
    obtain ⟨u30, hfr, hF⟩ := fr_wa hfr hF (by decide)
    obtain ⟨r31, u32, hc33, hF⟩ := q_bnd_some hF
    have hfr := hfr.app (fr_X11_soilSlot hc33) (by decide) (by decide) (by decide)
    obtain ⟨r34, u35, hc36, hF⟩ := q_bnd_some hF
    have hfr := hfr.app (fr_X11_enter hc36) (by decide) (by decide) (by decide)
    obtain ⟨v37, hF⟩ := fr_rd hF
    rcases fr_if hF with hF | hF
    · rcases fr_if hF with hF | hF
      · cases hF; exact hfr
      · obtain ⟨u38, hfr, hF⟩ := fr_wa hfr hF (by decide)
        obtain ⟨r39, u40, hc41, hF⟩ := q_bnd_some hF
        have hfr := hfr.app (fr_X11_soilNode hc41) (by decide) (by decide) (by decide)
        cases hF; exact hfr
    · cases hF; exact hfr
  have hB230 : ∀ (x1 : Int32) (x4 : Int32) (x5 : Int64) (x7 : Int32) (x8 : Int32) (x9 : Int32) (u : q_St), Fr wi_X11_rename wa_X11_rename wj_X11_rename u0 u → fX11_rename_b230 N x1 x4 x5 x7 x8 x9 u = some (r0, σ0) → Fr wi_X11_rename wa_X11_rename wj_X11_rename u0 σ0 := by
    intro x1 x4 x5 x7 x8 x9 u hfr hF
    unfold fX11_rename_b230 at hF
    obtain ⟨r49, u50, hc51, hF⟩ := q_bnd_some hF
    have hfr := hfr.app (fr_X11_dropSlot hc51) (by decide) (by decide) (by decide)
    exact hB260 x1 x4 x5 x7 x8 u50 hfr hF
  have hB201 : ∀ (x1 : Int32) (x4 : Int32) (x5 : Int64) (x7 : Int32) (x8 : Int32) (x9 : Int32) (x10 : Int32) (y0 : Int32) (y1 : Int32) (u : q_St), Fr wi_X11_rename wa_X11_rename wj_X11_rename u0 u → fX11_rename_b201 N x1 x4 x5 x7 x8 x9 x10 y0 y1 u = some (r0, σ0) → Fr wi_X11_rename wa_X11_rename wj_X11_rename u0 σ0 := by
    intro x1 x4 x5 x7 x8 x9 x10 y0 y1 u hfr hF
    unfold fX11_rename_b201 at hF
    rcases fr_if hF with hF | hF
    · obtain ⟨v48, hF⟩ := fr_rd hF
      rcases fr_if hF with hF | hF
      · obtain ⟨r52, u53, hc54, hF⟩ := q_bnd_some hF
        have hfr := hfr.app (fr_X11_names hc54) (by decide) (by decide) (by decide)
        rcases fr_if hF with hF | hF
        · exact hB230 x1 x4 x5 x7 x8 x9 u53 hfr hF
        · cases hF; exact hfr
      · exact hB230 x1 x4 x5 x7 x8 x9 u hfr hF
    · cases hF; exact hfr
  have hB185 : ∀ (x1 : Int32) (x4 : Int32) (x5 : Int64) (x7 : Int32) (x8 : Int32) (x9 : Int32) (x10 : Int32) (y0 : Int32) (u : q_St), Fr wi_X11_rename wa_X11_rename wj_X11_rename u0 u → fX11_rename_b185 N x1 x4 x5 x7 x8 x9 x10 y0 u = some (r0, σ0) → Fr wi_X11_rename wa_X11_rename wj_X11_rename u0 σ0 := by
    intro x1 x4 x5 x7 x8 x9 x10 y0 u hfr hF
    unfold fX11_rename_b185 at hF
    obtain ⟨v47, hF⟩ := fr_rd hF
    rcases fr_if hF with hF | hF
    · exact hB201 x1 x4 x5 x7 x8 x9 x10 1 y0 u hfr hF
    · exact hB201 x1 x4 x5 x7 x8 x9 x10 0 y0 u hfr hF
  have hB137 : ∀ (x1 : Int32) (x4 : Int32) (x5 : Int64) (x7 : Int32) (x8 : Int32) (u : q_St), Fr wi_X11_rename wa_X11_rename wj_X11_rename u0 u → fX11_rename_b137 N x1 x4 x5 x7 x8 u = some (r0, σ0) → Fr wi_X11_rename wa_X11_rename wj_X11_rename u0 σ0 := by
    intro x1 x4 x5 x7 x8 u hfr hF
    unfold fX11_rename_b137 at hF
    obtain ⟨r27, u28, hc29, hF⟩ := q_bnd_some hF
    have hfr := hfr.app (fr_X11_slotOf hc29) (by decide) (by decide) (by decide)
    rcases fr_if hF with hF | hF
    · rcases fr_if hF with hF | hF
      · exact hB260 x1 x4 x5 x7 x8 u28 hfr hF
      · obtain ⟨r42, u43, hc44, hF⟩ := q_bnd_some hF
        have hfr := hfr.app (fr_X11_hasRoom hc44) (by decide) (by decide) (by decide)
        rcases fr_if hF with hF | hF
        · cases hF; exact hfr
        · exact hB260 x1 x4 x5 x7 x8 u43 hfr hF
    · obtain ⟨v45, hF⟩ := fr_rd hF
      rcases fr_if hF with hF | hF
      · cases hF; exact hfr
      · obtain ⟨v46, hF⟩ := fr_rd hF
        rcases fr_if hF with hF | hF
        · exact hB185 x1 x4 x5 x7 x8 r27 v45 1 u28 hfr hF
        · exact hB185 x1 x4 x5 x7 x8 r27 v45 0 u28 hfr hF
  have hB112 : ∀ (x1 : Int32) (x4 : Int32) (x5 : Int64) (x7 : Int32) (x8 : Int32) (u : q_St), Fr wi_X11_rename wa_X11_rename wj_X11_rename u0 u → fX11_rename_b112 N x1 x4 x5 x7 x8 u = some (r0, σ0) → Fr wi_X11_rename wa_X11_rename wj_X11_rename u0 σ0 := by
    intro x1 x4 x5 x7 x8 u hfr hF
    unfold fX11_rename_b112 at hF
    obtain ⟨v26, hF⟩ := fr_rd hF
    rcases fr_if hF with hF | hF
    · obtain ⟨r55, u56, hc57, hF⟩ := q_bnd_some hF
      have hfr := hfr.app (fr_X11_isIn hc57) (by decide) (by decide) (by decide)
      rcases fr_if hF with hF | hF
      · exact hB137 x1 x4 x5 x7 x8 u56 hfr hF
      · cases hF; exact hfr
    · exact hB137 x1 x4 x5 x7 x8 u hfr hF
  unfold fX11_rename at hF
  have hfr := Fr.rf wi_X11_rename wa_X11_rename wj_X11_rename u0
  obtain ⟨r1, u2, hc3, hF⟩ := q_bnd_some hF
  have hfr := hfr.app (fr_X11_begins hc3) (by decide) (by decide) (by decide)
  rcases fr_if hF with hF | hF
  · cases hF; exact hfr
  · obtain ⟨r4, u5, hc6, hF⟩ := q_bnd_some hF
    have hfr := hfr.app (fr_X11_isDirectory hc6) (by decide) (by decide) (by decide)
    rcases fr_if hF with hF | hF
    · cases hF; exact hfr
    · obtain ⟨r7, u8, hc9, hF⟩ := q_bnd_some hF
      have hfr := hfr.app (fr_X11_isDirectory hc9) (by decide) (by decide) (by decide)
      rcases fr_if hF with hF | hF
      · cases hF; exact hfr
      · obtain ⟨r10, u11, hc12, hF⟩ := q_bnd_some hF
        have hfr := hfr.app (fr_X11_isName hc12) (by decide) (by decide) (by decide)
        rcases fr_if hF with hF | hF
        · cases hF; exact hfr
        · obtain ⟨r13, u14, hc15, hF⟩ := q_bnd_some hF
          have hfr := hfr.app (fr_X11_isName hc15) (by decide) (by decide) (by decide)
          rcases fr_if hF with hF | hF
          · cases hF; exact hfr
          · obtain ⟨r16, u17, hc18, hF⟩ := q_bnd_some hF
            have hfr := hfr.app (fr_X11_may hc18) (by decide) (by decide) (by decide)
            rcases fr_if hF with hF | hF
            · cases hF; exact hfr
            · obtain ⟨r19, u20, hc21, hF⟩ := q_bnd_some hF
              have hfr := hfr.app (fr_X11_may hc21) (by decide) (by decide) (by decide)
              rcases fr_if hF with hF | hF
              · cases hF; exact hfr
              · obtain ⟨r22, u23, hc24, hF⟩ := q_bnd_some hF
                have hfr := hfr.app (fr_X11_slotOf hc24) (by decide) (by decide) (by decide)
                rcases fr_if hF with hF | hF
                · cases hF; exact hfr
                · obtain ⟨v25, hF⟩ := fr_rd hF
                  rcases fr_if hF with hF | hF
                  · rcases fr_if hF with hF | hF
                    · cases hF; exact hfr
                    · exact hB112 o1 o4 o5 r22 v25 u23 hfr hF
                  · exact hB112 o1 o4 o5 r22 v25 u23 hfr hF
abbrev wi_X11_find : List Nat := []
abbrev wa_X11_find : List Nat := []
abbrev wj_X11_find : List Nat := []
set_option maxHeartbeats 4000000 in
set_option maxRecDepth 100000 in
theorem fr_X11_find {N : Nat} {o1 : Int32} {o2 : Int64} {u0 σ0 : q_St} {r0 : Int32} (hF : fX11_find N o1 o2 u0 = some (r0, σ0)) : Fr wi_X11_find wa_X11_find wj_X11_find u0 σ0 := by
  unfold fX11_find at hF
  have hfr := Fr.rf wi_X11_find wa_X11_find wj_X11_find u0
  rcases fr_if hF with hF | hF
  · cases hF; exact hfr
  · obtain ⟨r1, u2, hc3, hF⟩ := q_bnd_some hF
    have hfr := hfr.app (fr_X11_isDirectory hc3) (by decide) (by decide) (by decide)
    rcases fr_if hF with hF | hF
    · cases hF; exact hfr
    · obtain ⟨r4, u5, hc6, hF⟩ := q_bnd_some hF
      have hfr := hfr.app (fr_X11_isName hc6) (by decide) (by decide) (by decide)
      rcases fr_if hF with hF | hF
      · cases hF; exact hfr
      · obtain ⟨r7, u8, hc9, hF⟩ := q_bnd_some hF
        have hfr := hfr.app (fr_X11_may hc9) (by decide) (by decide) (by decide)
        rcases fr_if hF with hF | hF
        · cases hF; exact hfr
        · obtain ⟨r10, u11, hc12, hF⟩ := q_bnd_some hF
          have hfr := hfr.app (fr_X11_slotOf hc12) (by decide) (by decide) (by decide)
          rcases fr_if hF with hF | hF
          · cases hF; exact hfr
          · obtain ⟨v13, hF⟩ := fr_rd hF
            cases hF; exact hfr
abbrev wi_X11_isAhead : List Nat := []
abbrev wa_X11_isAhead : List Nat := []
abbrev wj_X11_isAhead : List Nat := []
set_option maxHeartbeats 4000000 in
set_option maxRecDepth 100000 in
theorem fr_X11_isAhead {N : Nat} {o0 : Int64} {o2 : Int64} {u0 σ0 : q_St} {r0 : Int32} (hF : fX11_isAhead N o0 o2 u0 = some (r0, σ0)) : Fr wi_X11_isAhead wa_X11_isAhead wj_X11_isAhead u0 σ0 := by
  have hB31 : ∀ (x0 : Int64) (x2 : Int64) (x4 : Int32) (u : q_St), Fr wi_X11_isAhead wa_X11_isAhead wj_X11_isAhead u0 u → fX11_isAhead_b31 N x0 x2 x4 u = some (r0, σ0) → Fr wi_X11_isAhead wa_X11_isAhead wj_X11_isAhead u0 σ0 := by
    intro x0 x2 x4 u hfr hF
    unfold fX11_isAhead_b31 at hF
    obtain ⟨r1, u2, hc3, hF⟩ := q_bnd_some hF
    have hfr := hfr.app (fr_X11_letter hc3) (by decide) (by decide) (by decide)
    obtain ⟨r4, u5, hc6, hF⟩ := q_bnd_some hF
    have hfr := hfr.app (fr_X11_letter hc6) (by decide) (by decide) (by decide)
    rcases fr_if hF with hF | hF
    · cases hF; exact hfr
    · cases hF; exact hfr
  have hB3 : ∀ (n : Nat) (x0 : Int64) (x2 : Int64) (x4 : Int32) (u : q_St), Fr wi_X11_isAhead wa_X11_isAhead wj_X11_isAhead u0 u → q_lp (fX11_isAhead_b3 N) (fun _ _ _ _ => none) n x0 x2 x4 u = some (r0, σ0) → Fr wi_X11_isAhead wa_X11_isAhead wj_X11_isAhead u0 σ0 := by
    intro n
    induction n with
    | zero => intro x0 x2 x4 u hfr hF; exact absurd (show (none : Option (Int32 × q_St)) = some _ from hF) (fun h => nomatch h)
    | succ n hi3 =>
      intro x0 x2 x4 u hfr hF
      obtain ⟨ih3, hih⟩ : ∃ q, q = q_lp (fX11_isAhead_b3 N) (fun _ _ _ _ => none) n := ⟨_, rfl⟩
      rw [← hih] at hi3
      have hF : fX11_isAhead_b3 N (q_lp (fX11_isAhead_b3 N) (fun _ _ _ _ => none) n) x0 x2 x4 u = some (r0, σ0) := hF
      rw [← hih] at hF
      clear hih
      unfold fX11_isAhead_b3 at hF
      rcases fr_if hF with hF | hF
      · exact hB31 x0 x2 x4 u hfr hF
      · obtain ⟨r7, u8, hc9, hF⟩ := q_bnd_some hF
        have hfr := hfr.app (fr_X11_letter hc9) (by decide) (by decide) (by decide)
        obtain ⟨r10, u11, hc12, hF⟩ := q_bnd_some hF
        have hfr := hfr.app (fr_X11_letter hc12) (by decide) (by decide) (by decide)
        rcases fr_if hF with hF | hF
        · obtain ⟨v13, hF⟩ := fr_nm hF
          exact hi3 x0 x2 v13 u11 hfr hF
        · exact hB31 x0 x2 x4 u11 hfr hF
  unfold fX11_isAhead at hF
  have hfr := Fr.rf wi_X11_isAhead wa_X11_isAhead wj_X11_isAhead u0
  exact hB3 N o0 o2 0 u0 hfr hF
abbrev wi_X11_ordered : List Nat := []
abbrev wa_X11_ordered : List Nat := []
abbrev wj_X11_ordered : List Nat := []
set_option maxHeartbeats 4000000 in
set_option maxRecDepth 100000 in
theorem fr_X11_ordered {N : Nat} {o1 : Int32} {o2 : Int32} {u0 σ0 : q_St} {r0 : Int32} (hF : fX11_ordered N o1 o2 u0 = some (r0, σ0)) : Fr wi_X11_ordered wa_X11_ordered wj_X11_ordered u0 σ0 := by
  have hB110 : ∀ (ih5 : Int32 → Int32 → Int32 → q_St → Option (Int32 × q_St)) (hi5 : ∀ (x1 : Int32) (x2 : Int32) (x3 : Int32) (u : q_St), Fr wi_X11_ordered wa_X11_ordered wj_X11_ordered u0 u → ih5 x1 x2 x3 u = some (r0, σ0) → Fr wi_X11_ordered wa_X11_ordered wj_X11_ordered u0 σ0), ∀ (x1 : Int32) (x2 : Int32) (x3 : Int32) (u : q_St), Fr wi_X11_ordered wa_X11_ordered wj_X11_ordered u0 u → fX11_ordered_b110 N ih5 x1 x2 x3 u = some (r0, σ0) → Fr wi_X11_ordered wa_X11_ordered wj_X11_ordered u0 σ0 := by
    intro ih5 hi5 x1 x2 x3 u hfr hF
    unfold fX11_ordered_b110 at hF
    obtain ⟨v10, hF⟩ := fr_nm hF
    exact hi5 x1 x2 v10 u hfr hF
  have hB93 : ∀ (ih5 : Int32 → Int32 → Int32 → q_St → Option (Int32 × q_St)) (hi5 : ∀ (x1 : Int32) (x2 : Int32) (x3 : Int32) (u : q_St), Fr wi_X11_ordered wa_X11_ordered wj_X11_ordered u0 u → ih5 x1 x2 x3 u = some (r0, σ0) → Fr wi_X11_ordered wa_X11_ordered wj_X11_ordered u0 σ0), ∀ (ih41 : Int32 → Int32 → Int32 → Int32 → Int32 → q_St → Option (Int32 × q_St)) (hi41 : ∀ (x1 : Int32) (x2 : Int32) (x3 : Int32) (x4 : Int32) (x5 : Int32) (u : q_St), Fr wi_X11_ordered wa_X11_ordered wj_X11_ordered u0 u → ih41 x1 x2 x3 x4 x5 u = some (r0, σ0) → Fr wi_X11_ordered wa_X11_ordered wj_X11_ordered u0 σ0), ∀ (x1 : Int32) (x2 : Int32) (x3 : Int32) (x5 : Int32) (y0 : Int32) (y1 : Int32) (u : q_St), Fr wi_X11_ordered wa_X11_ordered wj_X11_ordered u0 u → fX11_ordered_b93 N ih5 ih41 x1 x2 x3 x5 y0 y1 u = some (r0, σ0) → Fr wi_X11_ordered wa_X11_ordered wj_X11_ordered u0 σ0 := by
    intro ih5 hi5 ih41 hi41 x1 x2 x3 x5 y0 y1 u hfr hF
    unfold fX11_ordered_b93 at hF
    obtain ⟨v12, hF⟩ := fr_nm hF
    obtain ⟨v13, hF⟩ := fr_nm hF
    exact hi41 x1 x2 x3 v12 v13 u hfr hF
  have hB92 : ∀ (ih5 : Int32 → Int32 → Int32 → q_St → Option (Int32 × q_St)) (hi5 : ∀ (x1 : Int32) (x2 : Int32) (x3 : Int32) (u : q_St), Fr wi_X11_ordered wa_X11_ordered wj_X11_ordered u0 u → ih5 x1 x2 x3 u = some (r0, σ0) → Fr wi_X11_ordered wa_X11_ordered wj_X11_ordered u0 σ0), ∀ (ih41 : Int32 → Int32 → Int32 → Int32 → Int32 → q_St → Option (Int32 × q_St)) (hi41 : ∀ (x1 : Int32) (x2 : Int32) (x3 : Int32) (x4 : Int32) (x5 : Int32) (u : q_St), Fr wi_X11_ordered wa_X11_ordered wj_X11_ordered u0 u → ih41 x1 x2 x3 x4 x5 u = some (r0, σ0) → Fr wi_X11_ordered wa_X11_ordered wj_X11_ordered u0 σ0), ∀ (x1 : Int32) (x2 : Int32) (x3 : Int32) (x5 : Int32) (y0 : Int32) (u : q_St), Fr wi_X11_ordered wa_X11_ordered wj_X11_ordered u0 u → fX11_ordered_b92 N ih5 ih41 x1 x2 x3 x5 y0 u = some (r0, σ0) → Fr wi_X11_ordered wa_X11_ordered wj_X11_ordered u0 σ0 := by
    intro ih5 hi5 ih41 hi41 x1 x2 x3 x5 y0 u hfr hF
    unfold fX11_ordered_b92 at hF
    exact hB93 ih5 hi5 ih41 hi41 x1 x2 x3 x5 0 y0 u hfr hF
  have hB41 : ∀ (ih5 : Int32 → Int32 → Int32 → q_St → Option (Int32 × q_St)) (hi5 : ∀ (x1 : Int32) (x2 : Int32) (x3 : Int32) (u : q_St), Fr wi_X11_ordered wa_X11_ordered wj_X11_ordered u0 u → ih5 x1 x2 x3 u = some (r0, σ0) → Fr wi_X11_ordered wa_X11_ordered wj_X11_ordered u0 σ0), ∀ (n : Nat) (x1 : Int32) (x2 : Int32) (x3 : Int32) (x4 : Int32) (x5 : Int32) (u : q_St), Fr wi_X11_ordered wa_X11_ordered wj_X11_ordered u0 u → q_lp (fX11_ordered_b41 N ih5) (fun _ _ _ _ _ _ => none) n x1 x2 x3 x4 x5 u = some (r0, σ0) → Fr wi_X11_ordered wa_X11_ordered wj_X11_ordered u0 σ0 := by
    intro ih5 hi5 n
    induction n with
    | zero => intro x1 x2 x3 x4 x5 u hfr hF; exact absurd (show (none : Option (Int32 × q_St)) = some _ from hF) (fun h => nomatch h)
    | succ n hi41 =>
      intro x1 x2 x3 x4 x5 u hfr hF
      obtain ⟨ih41, hih⟩ : ∃ q, q = q_lp (fX11_ordered_b41 N ih5) (fun _ _ _ _ _ _ => none) n := ⟨_, rfl⟩
      rw [← hih] at hi41
      have hF : fX11_ordered_b41 N ih5 (q_lp (fX11_ordered_b41 N ih5) (fun _ _ _ _ _ _ => none) n) x1 x2 x3 x4 x5 u = some (r0, σ0) := hF
      rw [← hih] at hF
      clear hih
      unfold fX11_ordered_b41 at hF
      obtain ⟨r7, u8, hc9, hF⟩ := q_bnd_some hF
      have hfr := hfr.app (fr_X11_slots hc9) (by decide) (by decide) (by decide)
      rcases fr_if hF with hF | hF
      · rcases fr_if hF with hF | hF
        · cases hF; exact hfr
        · exact hB110 ih5 hi5 x1 x2 x3 u8 hfr hF
      · obtain ⟨v11, hF⟩ := fr_rd hF
        rcases fr_if hF with hF | hF
        · exact hB92 ih5 hi5 ih41 hi41 x1 x2 x3 x5 x4 u8 hfr hF
        · obtain ⟨v14, hF⟩ := fr_rd hF
          obtain ⟨v15, hF⟩ := fr_rd hF
          obtain ⟨r16, u17, hc18, hF⟩ := q_bnd_some hF
          have hfr := hfr.app (fr_X11_isAhead hc18) (by decide) (by decide) (by decide)
          rcases fr_if hF with hF | hF
          · exact hB92 ih5 hi5 ih41 hi41 x1 x2 x3 x5 x4 u17 hfr hF
          · exact hB93 ih5 hi5 ih41 hi41 x1 x2 x3 x5 1 x4 u17 hfr hF
  have hB5 : ∀ (n : Nat) (x1 : Int32) (x2 : Int32) (x3 : Int32) (u : q_St), Fr wi_X11_ordered wa_X11_ordered wj_X11_ordered u0 u → q_lp (fX11_ordered_b5 N) (fun _ _ _ _ => none) n x1 x2 x3 u = some (r0, σ0) → Fr wi_X11_ordered wa_X11_ordered wj_X11_ordered u0 σ0 := by
    intro n
    induction n with
    | zero => intro x1 x2 x3 u hfr hF; exact absurd (show (none : Option (Int32 × q_St)) = some _ from hF) (fun h => nomatch h)
    | succ n hi5 =>
      intro x1 x2 x3 u hfr hF
      obtain ⟨ih5, hih⟩ : ∃ q, q = q_lp (fX11_ordered_b5 N) (fun _ _ _ _ => none) n := ⟨_, rfl⟩
      rw [← hih] at hi5
      have hF : fX11_ordered_b5 N (q_lp (fX11_ordered_b5 N) (fun _ _ _ _ => none) n) x1 x2 x3 u = some (r0, σ0) := hF
      rw [← hih] at hF
      clear hih
      unfold fX11_ordered_b5 at hF
      obtain ⟨r2, u3, hc4, hF⟩ := q_bnd_some hF
      have hfr := hfr.app (fr_X11_slots hc4) (by decide) (by decide) (by decide)
      rcases fr_if hF with hF | hF
      · cases hF; exact hfr
      · obtain ⟨v5, hF⟩ := fr_rd hF
        rcases fr_if hF with hF | hF
        · exact hB110 ih5 hi5 x1 x2 x3 u3 hfr hF
        · obtain ⟨v6, hF⟩ := fr_nm hF
          exact hB41 ih5 hi5 N x1 x2 x3 0 v6 u3 hfr hF
  unfold fX11_ordered at hF
  have hfr := Fr.rf wi_X11_ordered wa_X11_ordered wj_X11_ordered u0
  obtain ⟨v1, hF⟩ := fr_nm hF
  exact hB5 N o1 o2 v1 u0 hfr hF
abbrev wi_X11_entry : List Nat := []
abbrev wa_X11_entry : List Nat := []
abbrev wj_X11_entry : List Nat := []
set_option maxHeartbeats 4000000 in
set_option maxRecDepth 100000 in
theorem fr_X11_entry {N : Nat} {o1 : Int32} {o2 : Int32} {u0 σ0 : q_St} {r0 : Int32} (hF : fX11_entry N o1 o2 u0 = some (r0, σ0)) : Fr wi_X11_entry wa_X11_entry wj_X11_entry u0 σ0 := by
  unfold fX11_entry at hF
  have hfr := Fr.rf wi_X11_entry wa_X11_entry wj_X11_entry u0
  rcases fr_if hF with hF | hF
  · cases hF; exact hfr
  · obtain ⟨r1, u2, hc3, hF⟩ := q_bnd_some hF
    have hfr := hfr.app (fr_X11_isDirectory hc3) (by decide) (by decide) (by decide)
    rcases fr_if hF with hF | hF
    · cases hF; exact hfr
    · obtain ⟨r4, u5, hc6, hF⟩ := q_bnd_some hF
      have hfr := hfr.app (fr_X11_may hc6) (by decide) (by decide) (by decide)
      rcases fr_if hF with hF | hF
      · cases hF; exact hfr
      · obtain ⟨r7, u8, hc9, hF⟩ := q_bnd_some hF
        have hfr := hfr.app (fr_X11_ordered hc9) (by decide) (by decide) (by decide)
        rcases fr_if hF with hF | hF
        · cases hF; exact hfr
        · obtain ⟨v10, hF⟩ := fr_rd hF
          cases hF; exact hfr
abbrev wi_X11_name : List Nat := []
abbrev wa_X11_name : List Nat := []
abbrev wj_X11_name : List Nat := []
set_option maxHeartbeats 4000000 in
set_option maxRecDepth 100000 in
theorem fr_X11_name {N : Nat} {o1 : Int32} {o2 : Int32} {u0 σ0 : q_St} {r0 : Int64} (hF : fX11_name N o1 o2 u0 = some (r0, σ0)) : Fr wi_X11_name wa_X11_name wj_X11_name u0 σ0 := by
  unfold fX11_name at hF
  have hfr := Fr.rf wi_X11_name wa_X11_name wj_X11_name u0
  rcases fr_if hF with hF | hF
  · cases hF; exact hfr
  · obtain ⟨r1, u2, hc3, hF⟩ := q_bnd_some hF
    have hfr := hfr.app (fr_X11_isDirectory hc3) (by decide) (by decide) (by decide)
    rcases fr_if hF with hF | hF
    · cases hF; exact hfr
    · obtain ⟨r4, u5, hc6, hF⟩ := q_bnd_some hF
      have hfr := hfr.app (fr_X11_may hc6) (by decide) (by decide) (by decide)
      rcases fr_if hF with hF | hF
      · cases hF; exact hfr
      · obtain ⟨r7, u8, hc9, hF⟩ := q_bnd_some hF
        have hfr := hfr.app (fr_X11_ordered hc9) (by decide) (by decide) (by decide)
        rcases fr_if hF with hF | hF
        · cases hF; exact hfr
        · obtain ⟨v10, hF⟩ := fr_rd hF
          cases hF; exact hfr
abbrev wi_X11_kind : List Nat := []
abbrev wa_X11_kind : List Nat := []
abbrev wj_X11_kind : List Nat := []
set_option maxHeartbeats 4000000 in
set_option maxRecDepth 100000 in
theorem fr_X11_kind {N : Nat} {o1 : Int32} {u0 σ0 : q_St} {r0 : Int32} (hF : fX11_kind N o1 u0 = some (r0, σ0)) : Fr wi_X11_kind wa_X11_kind wj_X11_kind u0 σ0 := by
  have hB20 : ∀ (u : q_St), Fr wi_X11_kind wa_X11_kind wj_X11_kind u0 u → fX11_kind_b20 N u = some (r0, σ0) → Fr wi_X11_kind wa_X11_kind wj_X11_kind u0 σ0 := by
    intro u hfr hF
    unfold fX11_kind_b20 at hF
    cases hF; exact hfr
  unfold fX11_kind at hF
  have hfr := Fr.rf wi_X11_kind wa_X11_kind wj_X11_kind u0
  rcases fr_if hF with hF | hF
  · cases hF; exact hfr
  · rcases fr_if hF with hF | hF
    · exact hB20 u0 hfr hF
    · rcases fr_if hF with hF | hF
      · obtain ⟨v1, hF⟩ := fr_rd hF
        cases hF; exact hfr
      · exact hB20 u0 hfr hF
abbrev wi_X11_size : List Nat := []
abbrev wa_X11_size : List Nat := []
abbrev wj_X11_size : List Nat := []
set_option maxHeartbeats 4000000 in
set_option maxRecDepth 100000 in
theorem fr_X11_size {N : Nat} {o1 : Int32} {u0 σ0 : q_St} {r0 : Int32} (hF : fX11_size N o1 u0 = some (r0, σ0)) : Fr wi_X11_size wa_X11_size wj_X11_size u0 σ0 := by
  unfold fX11_size at hF
  have hfr := Fr.rf wi_X11_size wa_X11_size wj_X11_size u0
  rcases fr_if hF with hF | hF
  · cases hF; exact hfr
  · rcases fr_if hF with hF | hF
    · cases hF; exact hfr
    · rcases fr_if hF with hF | hF
      · cases hF; exact hfr
      · obtain ⟨v1, hF⟩ := fr_rd hF
        rcases fr_if hF with hF | hF
        · cases hF; exact hfr
        · obtain ⟨v2, hF⟩ := fr_rd hF
          rcases fr_if hF with hF | hF
          · obtain ⟨r4, u5, hc6, hF⟩ := q_bnd_some hF
            have hfr := hfr.app (fr_X11_names hc6) (by decide) (by decide) (by decide)
            cases hF; exact hfr
          · obtain ⟨v3, hF⟩ := fr_rd hF
            cases hF; exact hfr
abbrev wi_X11_parent : List Nat := []
abbrev wa_X11_parent : List Nat := []
abbrev wj_X11_parent : List Nat := []
set_option maxHeartbeats 4000000 in
set_option maxRecDepth 100000 in
theorem fr_X11_parent {N : Nat} {o1 : Int32} {u0 σ0 : q_St} {r0 : Int32} (hF : fX11_parent N o1 u0 = some (r0, σ0)) : Fr wi_X11_parent wa_X11_parent wj_X11_parent u0 σ0 := by
  unfold fX11_parent at hF
  have hfr := Fr.rf wi_X11_parent wa_X11_parent wj_X11_parent u0
  rcases fr_if hF with hF | hF
  · cases hF; exact hfr
  · obtain ⟨r1, u2, hc3, hF⟩ := q_bnd_some hF
    have hfr := hfr.app (fr_X11_isDirectory hc3) (by decide) (by decide) (by decide)
    rcases fr_if hF with hF | hF
    · cases hF; exact hfr
    · obtain ⟨v4, hF⟩ := fr_rd hF
      cases hF; exact hfr
abbrev wi_X11_block : List Nat := []
abbrev wa_X11_block : List Nat := []
abbrev wj_X11_block : List Nat := []
set_option maxHeartbeats 4000000 in
set_option maxRecDepth 100000 in
theorem fr_X11_block {N : Nat} {o1 : Int32} {o2 : Int32} {u0 σ0 : q_St} {r0 : Int32} (hF : fX11_block N o1 o2 u0 = some (r0, σ0)) : Fr wi_X11_block wa_X11_block wj_X11_block u0 σ0 := by
  unfold fX11_block at hF
  have hfr := Fr.rf wi_X11_block wa_X11_block wj_X11_block u0
  rcases fr_if hF with hF | hF
  · cases hF; exact hfr
  · obtain ⟨r1, u2, hc3, hF⟩ := q_bnd_some hF
    have hfr := hfr.app (fr_X11_isNode hc3) (by decide) (by decide) (by decide)
    rcases fr_if hF with hF | hF
    · cases hF; exact hfr
    · rcases fr_if hF with hF | hF
      · obtain ⟨v4, hF⟩ := fr_rd hF
        rcases fr_if hF with hF | hF
        · rcases fr_if hF with hF | hF
          · rcases fr_if hF with hF | hF
            · cases hF; exact hfr
            · obtain ⟨v8, hF⟩ := fr_rd hF
              cases hF; exact hfr
          · rcases fr_if hF with hF | hF
            · obtain ⟨v6, hF⟩ := fr_rd hF
              rcases fr_if hF with hF | hF
              · cases hF; exact hfr
              · obtain ⟨v7, hF⟩ := fr_rd hF
                cases hF; exact hfr
            · rcases fr_if hF with hF | hF
              · rcases fr_if hF with hF | hF
                · cases hF; exact hfr
                · obtain ⟨v5, hF⟩ := fr_rd hF
                  cases hF; exact hfr
              · cases hF; exact hfr
        · rcases fr_if hF with hF | hF
          · obtain ⟨v9, hF⟩ := fr_rd hF
            cases hF; exact hfr
          · cases hF; exact hfr
      · cases hF; exact hfr
abbrev wi_X11_byteAt : List Nat := []
abbrev wa_X11_byteAt : List Nat := []
abbrev wj_X11_byteAt : List Nat := []
set_option maxHeartbeats 4000000 in
set_option maxRecDepth 100000 in
theorem fr_X11_byteAt {N : Nat} {o1 : Int32} {o2 : Int32} {u0 σ0 : q_St} {r0 : Int32} (hF : fX11_byteAt N o1 o2 u0 = some (r0, σ0)) : Fr wi_X11_byteAt wa_X11_byteAt wj_X11_byteAt u0 σ0 := by
  have hB66 : ∀ (x1 : Int32) (x2 : Int32) (x3 : Int32) (u : q_St), Fr wi_X11_byteAt wa_X11_byteAt wj_X11_byteAt u0 u → fX11_byteAt_b66 N x1 x2 x3 u = some (r0, σ0) → Fr wi_X11_byteAt wa_X11_byteAt wj_X11_byteAt u0 σ0 := by
    intro x1 x2 x3 u hfr hF
    unfold fX11_byteAt_b66 at hF
    rcases fr_if hF with hF | hF
    · cases hF; exact hfr
    · obtain ⟨v4, hF⟩ := fr_rd hF
      rcases fr_if hF with hF | hF
      · rcases fr_if hF with hF | hF
        · obtain ⟨r5, u6, hc7, hF⟩ := q_bnd_some hF
          have hfr := hfr.app (fr_X11_sectorOf hc7) (by decide) (by decide) (by decide)
          rcases fr_if hF with hF | hF
          · cases hF; exact hfr
          · obtain ⟨v8, hF⟩ := fr_rd hF
            cases hF; exact hfr
        · obtain ⟨v9, hF⟩ := fr_rd hF
          cases hF; exact hfr
      · cases hF; exact hfr
  have hB50 : ∀ (x1 : Int32) (x2 : Int32) (x3 : Int32) (u : q_St), Fr wi_X11_byteAt wa_X11_byteAt wj_X11_byteAt u0 u → fX11_byteAt_b50 N x1 x2 x3 u = some (r0, σ0) → Fr wi_X11_byteAt wa_X11_byteAt wj_X11_byteAt u0 σ0 := by
    intro x1 x2 x3 u hfr hF
    unfold fX11_byteAt_b50 at hF
    rcases fr_if hF with hF | hF
    · obtain ⟨r10, u11, hc12, hF⟩ := q_bnd_some hF
      have hfr := hfr.app (fr_X11_may hc12) (by decide) (by decide) (by decide)
      rcases fr_if hF with hF | hF
      · cases hF; exact hfr
      · exact hB66 x1 x2 x3 u11 hfr hF
    · exact hB66 x1 x2 x3 u hfr hF
  have hB33 : ∀ (x1 : Int32) (x2 : Int32) (y0 : Int32) (u : q_St), Fr wi_X11_byteAt wa_X11_byteAt wj_X11_byteAt u0 u → fX11_byteAt_b33 N x1 x2 y0 u = some (r0, σ0) → Fr wi_X11_byteAt wa_X11_byteAt wj_X11_byteAt u0 σ0 := by
    intro x1 x2 y0 u hfr hF
    unfold fX11_byteAt_b33 at hF
    rcases fr_if hF with hF | hF
    · obtain ⟨r13, u14, hc15, hF⟩ := q_bnd_some hF
      have hfr := hfr.app (fr_X11_isFile hc15) (by decide) (by decide) (by decide)
      rcases fr_if hF with hF | hF
      · cases hF; exact hfr
      · exact hB50 x1 x2 y0 u14 hfr hF
    · exact hB50 x1 x2 y0 u hfr hF
  have hB32 : ∀ (x1 : Int32) (x2 : Int32) (u : q_St), Fr wi_X11_byteAt wa_X11_byteAt wj_X11_byteAt u0 u → fX11_byteAt_b32 N x1 x2 u = some (r0, σ0) → Fr wi_X11_byteAt wa_X11_byteAt wj_X11_byteAt u0 σ0 := by
    intro x1 x2 u hfr hF
    unfold fX11_byteAt_b32 at hF
    exact hB33 x1 x2 0 u hfr hF
  unfold fX11_byteAt at hF
  have hfr := Fr.rf wi_X11_byteAt wa_X11_byteAt wj_X11_byteAt u0
  rcases fr_if hF with hF | hF
  · cases hF; exact hfr
  · obtain ⟨r1, u2, hc3, hF⟩ := q_bnd_some hF
    have hfr := hfr.app (fr_X11_isNode hc3) (by decide) (by decide) (by decide)
    rcases fr_if hF with hF | hF
    · exact hB32 o1 o2 u2 hfr hF
    · obtain ⟨v16, hF⟩ := fr_rd hF
      rcases fr_if hF with hF | hF
      · exact hB33 o1 o2 1 u2 hfr hF
      · exact hB32 o1 o2 u2 hfr hF
abbrev wi_X11_check : List Nat := []
abbrev wa_X11_check : List Nat := []
abbrev wj_X11_check : List Nat := []
set_option maxHeartbeats 4000000 in
set_option maxRecDepth 100000 in
theorem fr_X11_check {N : Nat}  {u0 σ0 : q_St} {r0 : Int32} (hF : fX11_check N u0 = some (r0, σ0)) : Fr wi_X11_check wa_X11_check wj_X11_check u0 σ0 := by
  unfold fX11_check at hF
  have hfr := Fr.rf wi_X11_check wa_X11_check wj_X11_check u0
  rcases fr_if hF with hF | hF
  · cases hF; exact hfr
  · cases hF; exact hfr
abbrev wi_X11_scrub : List Nat := []
abbrev wa_X11_scrub : List Nat := []
abbrev wj_X11_scrub : List Nat := []
set_option maxHeartbeats 4000000 in
set_option maxRecDepth 100000 in
theorem fr_X11_scrub {N : Nat}  {u0 σ0 : q_St} {r0 : Int32} (hF : fX11_scrub N u0 = some (r0, σ0)) : Fr wi_X11_scrub wa_X11_scrub wj_X11_scrub u0 σ0 := by
  unfold fX11_scrub at hF
  have hfr := Fr.rf wi_X11_scrub wa_X11_scrub wj_X11_scrub u0
  rcases fr_if hF with hF | hF
  · cases hF; exact hfr
  · obtain ⟨r1, u2, hc3, hF⟩ := q_bnd_some hF
    have hfr := hfr.app (fr_X11_freeBlocks hc3) (by decide) (by decide) (by decide)
    cases hF; exact hfr
abbrev wi_X11_where : List Nat := []
abbrev wa_X11_where : List Nat := []
abbrev wj_X11_where : List Nat := []
set_option maxHeartbeats 4000000 in
set_option maxRecDepth 100000 in
theorem fr_X11_where {N : Nat} {o1 : Int32} {u0 σ0 : q_St} {r0 : Int32} (hF : fX11_where N o1 u0 = some (r0, σ0)) : Fr wi_X11_where wa_X11_where wj_X11_where u0 σ0 := by
  unfold fX11_where at hF
  have hfr := Fr.rf wi_X11_where wa_X11_where wj_X11_where u0
  rcases fr_if hF with hF | hF
  · cases hF; exact hfr
  · rcases fr_if hF with hF | hF
    · cases hF; exact hfr
    · rcases fr_if hF with hF | hF
      · obtain ⟨v1, hF⟩ := fr_rd hF
        rcases fr_if hF with hF | hF
        · cases hF; exact hfr
        · obtain ⟨v2, hF⟩ := fr_rd hF
          obtain ⟨r3, u4, hc5, hF⟩ := q_bnd_some hF
          have hfr := hfr.app (fr_X11_isLive hc5) (by decide) (by decide) (by decide)
          rcases fr_if hF with hF | hF
          · cases hF; exact hfr
          · obtain ⟨v6, hF⟩ := fr_rd hF
            cases hF; exact hfr
      · cases hF; exact hfr
abbrev wi_X11_mark : List Nat := []
abbrev wa_X11_mark : List Nat := []
abbrev wj_X11_mark : List Nat := []
set_option maxHeartbeats 4000000 in
set_option maxRecDepth 100000 in
theorem fr_X11_mark {N : Nat} {o1 : Int32} {u0 σ0 : q_St} {r0 : Int32} (hF : fX11_mark N o1 u0 = some (r0, σ0)) : Fr wi_X11_mark wa_X11_mark wj_X11_mark u0 σ0 := by
  have hB22 : ∀ (u : q_St), Fr wi_X11_mark wa_X11_mark wj_X11_mark u0 u → fX11_mark_b22 N u = some (r0, σ0) → Fr wi_X11_mark wa_X11_mark wj_X11_mark u0 σ0 := by
    intro u hfr hF
    unfold fX11_mark_b22 at hF
    cases hF; exact hfr
  unfold fX11_mark at hF
  have hfr := Fr.rf wi_X11_mark wa_X11_mark wj_X11_mark u0
  rcases fr_if hF with hF | hF
  · cases hF; exact hfr
  · rcases fr_if hF with hF | hF
    · exact hB22 u0 hfr hF
    · rcases fr_if hF with hF | hF
      · obtain ⟨v1, hF⟩ := fr_rd hF
        cases hF; exact hfr
      · exact hB22 u0 hfr hF
abbrev wi_X11_lost : List Nat := []
abbrev wa_X11_lost : List Nat := []
abbrev wj_X11_lost : List Nat := []
set_option maxHeartbeats 4000000 in
set_option maxRecDepth 100000 in
theorem fr_X11_lost {N : Nat}  {u0 σ0 : q_St} {r0 : Int32} (hF : fX11_lost N u0 = some (r0, σ0)) : Fr wi_X11_lost wa_X11_lost wj_X11_lost u0 σ0 := by
  have hB60 : ∀ (ih37 : Int32 → Int32 → q_St → Option (Int32 × q_St)) (hi37 : ∀ (x1 : Int32) (x2 : Int32) (u : q_St), Fr wi_X11_lost wa_X11_lost wj_X11_lost u0 u → ih37 x1 x2 u = some (r0, σ0) → Fr wi_X11_lost wa_X11_lost wj_X11_lost u0 σ0), ∀ (x2 : Int32) (y0 : Int32) (y1 : Int32) (u : q_St), Fr wi_X11_lost wa_X11_lost wj_X11_lost u0 u → fX11_lost_b60 N ih37 x2 y0 y1 u = some (r0, σ0) → Fr wi_X11_lost wa_X11_lost wj_X11_lost u0 σ0 := by
    intro ih37 hi37 x2 y0 y1 u hfr hF
    unfold fX11_lost_b60 at hF
    obtain ⟨v2, hF⟩ := fr_nm hF
    obtain ⟨v3, hF⟩ := fr_nm hF
    exact hi37 v2 v3 u hfr hF
  have hB37 : ∀ (n : Nat) (x1 : Int32) (x2 : Int32) (u : q_St), Fr wi_X11_lost wa_X11_lost wj_X11_lost u0 u → q_lp (fX11_lost_b37 N) (fun _ _ _ => none) n x1 x2 u = some (r0, σ0) → Fr wi_X11_lost wa_X11_lost wj_X11_lost u0 σ0 := by
    intro n
    induction n with
    | zero => intro x1 x2 u hfr hF; exact absurd (show (none : Option (Int32 × q_St)) = some _ from hF) (fun h => nomatch h)
    | succ n hi37 =>
      intro x1 x2 u hfr hF
      obtain ⟨ih37, hih⟩ : ∃ q, q = q_lp (fX11_lost_b37 N) (fun _ _ _ => none) n := ⟨_, rfl⟩
      rw [← hih] at hi37
      have hF : fX11_lost_b37 N (q_lp (fX11_lost_b37 N) (fun _ _ _ => none) n) x1 x2 u = some (r0, σ0) := hF
      rw [← hih] at hF
      clear hih
      unfold fX11_lost_b37 at hF
      rcases fr_if hF with hF | hF
      · cases hF; exact hfr
      · obtain ⟨v1, hF⟩ := fr_rd hF
        rcases fr_if hF with hF | hF
        · exact hB60 ih37 hi37 x2 0 x1 u hfr hF
        · exact hB60 ih37 hi37 x2 1 x1 u hfr hF
  have hB27 : ∀ (ih4 : Int32 → Int32 → q_St → Option (Int32 × q_St)) (hi4 : ∀ (x1 : Int32) (x2 : Int32) (u : q_St), Fr wi_X11_lost wa_X11_lost wj_X11_lost u0 u → ih4 x1 x2 u = some (r0, σ0) → Fr wi_X11_lost wa_X11_lost wj_X11_lost u0 σ0), ∀ (x2 : Int32) (y0 : Int32) (y1 : Int32) (u : q_St), Fr wi_X11_lost wa_X11_lost wj_X11_lost u0 u → fX11_lost_b27 N ih4 x2 y0 y1 u = some (r0, σ0) → Fr wi_X11_lost wa_X11_lost wj_X11_lost u0 σ0 := by
    intro ih4 hi4 x2 y0 y1 u hfr hF
    unfold fX11_lost_b27 at hF
    obtain ⟨v5, hF⟩ := fr_nm hF
    obtain ⟨v6, hF⟩ := fr_nm hF
    exact hi4 v5 v6 u hfr hF
  have hB4 : ∀ (n : Nat) (x1 : Int32) (x2 : Int32) (u : q_St), Fr wi_X11_lost wa_X11_lost wj_X11_lost u0 u → q_lp (fX11_lost_b4 N) (fun _ _ _ => none) n x1 x2 u = some (r0, σ0) → Fr wi_X11_lost wa_X11_lost wj_X11_lost u0 σ0 := by
    intro n
    induction n with
    | zero => intro x1 x2 u hfr hF; exact absurd (show (none : Option (Int32 × q_St)) = some _ from hF) (fun h => nomatch h)
    | succ n hi4 =>
      intro x1 x2 u hfr hF
      obtain ⟨ih4, hih⟩ : ∃ q, q = q_lp (fX11_lost_b4 N) (fun _ _ _ => none) n := ⟨_, rfl⟩
      rw [← hih] at hi4
      have hF : fX11_lost_b4 N (q_lp (fX11_lost_b4 N) (fun _ _ _ => none) n) x1 x2 u = some (r0, σ0) := hF
      rw [← hih] at hF
      clear hih
      unfold fX11_lost_b4 at hF
      rcases fr_if hF with hF | hF
      · exact hB37 N x1 0 u hfr hF
      · obtain ⟨v4, hF⟩ := fr_rd hF
        rcases fr_if hF with hF | hF
        · exact hB27 ih4 hi4 x2 0 x1 u hfr hF
        · exact hB27 ih4 hi4 x2 1 x1 u hfr hF
  unfold fX11_lost at hF
  have hfr := Fr.rf wi_X11_lost wa_X11_lost wj_X11_lost u0
  exact hB4 N 0 0 u0 hfr hF
abbrev wi_X11_freeNodes : List Nat := []
abbrev wa_X11_freeNodes : List Nat := []
abbrev wj_X11_freeNodes : List Nat := []
set_option maxHeartbeats 4000000 in
set_option maxRecDepth 100000 in
theorem fr_X11_freeNodes {N : Nat}  {u0 σ0 : q_St} {r0 : Int32} (hF : fX11_freeNodes N u0 = some (r0, σ0)) : Fr wi_X11_freeNodes wa_X11_freeNodes wj_X11_freeNodes u0 σ0 := by
  have hB25 : ∀ (ih4 : Int32 → Int32 → q_St → Option (Int32 × q_St)) (hi4 : ∀ (x1 : Int32) (x2 : Int32) (u : q_St), Fr wi_X11_freeNodes wa_X11_freeNodes wj_X11_freeNodes u0 u → ih4 x1 x2 u = some (r0, σ0) → Fr wi_X11_freeNodes wa_X11_freeNodes wj_X11_freeNodes u0 σ0), ∀ (x2 : Int32) (y0 : Int32) (y1 : Int32) (u : q_St), Fr wi_X11_freeNodes wa_X11_freeNodes wj_X11_freeNodes u0 u → fX11_freeNodes_b25 N ih4 x2 y0 y1 u = some (r0, σ0) → Fr wi_X11_freeNodes wa_X11_freeNodes wj_X11_freeNodes u0 σ0 := by
    intro ih4 hi4 x2 y0 y1 u hfr hF
    unfold fX11_freeNodes_b25 at hF
    obtain ⟨v2, hF⟩ := fr_nm hF
    obtain ⟨v3, hF⟩ := fr_nm hF
    exact hi4 v2 v3 u hfr hF
  have hB4 : ∀ (n : Nat) (x1 : Int32) (x2 : Int32) (u : q_St), Fr wi_X11_freeNodes wa_X11_freeNodes wj_X11_freeNodes u0 u → q_lp (fX11_freeNodes_b4 N) (fun _ _ _ => none) n x1 x2 u = some (r0, σ0) → Fr wi_X11_freeNodes wa_X11_freeNodes wj_X11_freeNodes u0 σ0 := by
    intro n
    induction n with
    | zero => intro x1 x2 u hfr hF; exact absurd (show (none : Option (Int32 × q_St)) = some _ from hF) (fun h => nomatch h)
    | succ n hi4 =>
      intro x1 x2 u hfr hF
      obtain ⟨ih4, hih⟩ : ∃ q, q = q_lp (fX11_freeNodes_b4 N) (fun _ _ _ => none) n := ⟨_, rfl⟩
      rw [← hih] at hi4
      have hF : fX11_freeNodes_b4 N (q_lp (fX11_freeNodes_b4 N) (fun _ _ _ => none) n) x1 x2 u = some (r0, σ0) := hF
      rw [← hih] at hF
      clear hih
      unfold fX11_freeNodes_b4 at hF
      rcases fr_if hF with hF | hF
      · cases hF; exact hfr
      · obtain ⟨v1, hF⟩ := fr_rd hF
        rcases fr_if hF with hF | hF
        · exact hB25 ih4 hi4 x2 1 x1 u hfr hF
        · exact hB25 ih4 hi4 x2 0 x1 u hfr hF
  unfold fX11_freeNodes at hF
  have hfr := Fr.rf wi_X11_freeNodes wa_X11_freeNodes wj_X11_freeNodes u0
  exact hB4 N 0 0 u0 hfr hF
abbrev wi_X11_now : List Nat := []
abbrev wa_X11_now : List Nat := []
abbrev wj_X11_now : List Nat := []
set_option maxHeartbeats 4000000 in
set_option maxRecDepth 100000 in
theorem fr_X11_now {N : Nat} {o1 : Int32} {u0 σ0 : q_St} {r0 : Int32} (hF : fX11_now N o1 u0 = some (r0, σ0)) : Fr wi_X11_now wa_X11_now wj_X11_now u0 σ0 := by
  unfold fX11_now at hF
  have hfr := Fr.rf wi_X11_now wa_X11_now wj_X11_now u0
  rcases fr_if hF with hF | hF
  · obtain ⟨r1, u2, hc3, hF⟩ := q_bnd_some hF
    have hfr := hfr.app (fr_X11_free hc3) (by decide) (by decide) (by decide)
    cases hF; exact hfr
  rcases fr_if hF with hF | hF
  · obtain ⟨r4, u5, hc6, hF⟩ := q_bnd_some hF
    have hfr := hfr.app (fr_X11_live hc6) (by decide) (by decide) (by decide)
    cases hF; exact hfr
  rcases fr_if hF with hF | hF
  · cases hF; exact hfr
  rcases fr_if hF with hF | hF
  · obtain ⟨r7, u8, hc9, hF⟩ := q_bnd_some hF
    have hfr := hfr.app (fr_X11_freeBlocks hc9) (by decide) (by decide) (by decide)
    cases hF; exact hfr
  rcases fr_if hF with hF | hF
  · obtain ⟨r10, u11, hc12, hF⟩ := q_bnd_some hF
    have hfr := hfr.app (fr_X11_freeNodes hc12) (by decide) (by decide) (by decide)
    cases hF; exact hfr
  rcases fr_if hF with hF | hF
  · cases hF; exact hfr
  rcases fr_if hF with hF | hF
  · obtain ⟨r13, u14, hc15, hF⟩ := q_bnd_some hF
    have hfr := hfr.app (fr_X11_nextKind hc15) (by decide) (by decide) (by decide)
    cases hF; exact hfr
  cases hF; exact hfr
abbrev wi_X11_count : List Nat := []
abbrev wa_X11_count : List Nat := []
abbrev wj_X11_count : List Nat := []
set_option maxHeartbeats 4000000 in
set_option maxRecDepth 100000 in
theorem fr_X11_count {N : Nat} {o1 : Int32} {u0 σ0 : q_St} {r0 : Int32} (hF : fX11_count N o1 u0 = some (r0, σ0)) : Fr wi_X11_count wa_X11_count wj_X11_count u0 σ0 := by
  unfold fX11_count at hF
  have hfr := Fr.rf wi_X11_count wa_X11_count wj_X11_count u0
  rcases fr_if hF with hF | hF
  · cases hF; exact hfr
  rcases fr_if hF with hF | hF
  · cases hF; exact hfr
  rcases fr_if hF with hF | hF
  · cases hF; exact hfr
  rcases fr_if hF with hF | hF
  · cases hF; exact hfr
  rcases fr_if hF with hF | hF
  · cases hF; exact hfr
  rcases fr_if hF with hF | hF
  · cases hF; exact hfr
  rcases fr_if hF with hF | hF
  · cases hF; exact hfr
  rcases fr_if hF with hF | hF
  · obtain ⟨r1, u2, hc3, hF⟩ := q_bnd_some hF
    have hfr := hfr.app (fr_X11_lost hc3) (by decide) (by decide) (by decide)
    cases hF; exact hfr
  rcases fr_if hF with hF | hF
  · cases hF; exact hfr
  rcases fr_if hF with hF | hF
  · cases hF; exact hfr
  · obtain ⟨r4, u5, hc6, hF⟩ := q_bnd_some hF
    have hfr := hfr.app (fr_X11_now hc6) (by decide) (by decide) (by decide)
    cases hF; exact hfr
