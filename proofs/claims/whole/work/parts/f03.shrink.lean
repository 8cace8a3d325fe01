/-! ===== the reference gives back ===== -/
def GM (A : Nat → Nat → Nat) (W na n Ls : Nat) (P : Nat → Bool) (A1 : Nat → Nat → Nat) (dm dm1 : Nat → Bool) : Prop :=
  (∀ r, P r = true → tl A W n r ≠ 0) ∧ (∀ k, k ≠ 9 → k ≠ 10 → k ≠ 17 → A1 k = A k) ∧ (∀ j, A1 9 j = if j / 1068 = n ∧ P (j % 1068) = true then 0 else A 9 j) ∧ (∀ j, A1 10 j = if j / 34 = n ∧ P (1068 + j % 34) = true then 0 else A 10 j) ∧ (∀ x, A1 17 x ≤ 1 ∧ (A1 17 x = 1 ↔ A 17 x = 1 ∧ ¬ gvn A W n P x)) ∧ DT A W na n Ls P dm dm1 ∧ (dm (na + n) = true → dm1 (na + n) = true)
theorem RM_i0 {Ls k0 j v : Nat} {A : Nat → Nat → Nat} {nm : Nat → Int64} {um : q_St} (h0 : k0 = 9 ∨ k0 = 10) (r : RM Ls A nm (q_a um) (q_j um 0)) : RM Ls (setA A k0 j v) nm (q_a (q_sa um k0 (upd (q_a um k0) j (i0 v)))) (q_j (q_sa um k0 (upd (q_a um k0) j (i0 v))) 0) := by
  obtain ⟨r1, r2, r3, r4, r6, r7, r8, r9⟩ := r
  have s7r : ∀ k ∈ s7, k ≠ 9 ∧ k ≠ 10 := by decide
  refine ⟨fun k hk i hi => ?_, fun i hi => ?_, fun i hi => ?_, ?_, ?_, ?_, ?_, ?_⟩
  · have := s7r k hk
    rw [qa_ne (by omega), setA_k (by omega)]; exact r1 k hk i hi
  · by_cases c : k0 = 10
    · subst c
      rw [qa_eq]
      by_cases c2 : i = j
      · rw [c2, up_s, setA_s]
      · rw [up_n c2, setA_n c2]; exact r2 i hi
    · rw [qa_ne (fun z => c z.symm), setA_k (fun z => c z.symm)]; exact r2 i hi
  · by_cases c : k0 = 9
    · subst c
      rw [qa_eq]
      by_cases c2 : i = j
      · rw [c2, up_s, setA_s]
      · rw [up_n c2, setA_n c2]; exact r3 i hi
    · rw [qa_ne (fun z => c z.symm), setA_k (fun z => c z.symm)]; exact r3 i hi
  · rw [qa_ne (by omega), setA_k (by omega)]; exact r4
  · rw [qa_ne (by omega), setA_k (by omega)]; exact r6
  · rw [qa_ne (by omega), setA_k (by omega)]; exact r7
  · rw [qa_ne (by omega), setA_k (by omega)]; exact r8
  · rw [qa_ne (by omega), setA_k (by omega)]; exact r9
theorem RM_17 {Ls j v : Nat} {A : Nat → Nat → Nat} {nm : Nat → Int64} {um : q_St} (r : RM Ls A nm (q_a um) (q_j um 0)) : RM Ls (setA A 17 j v) nm (q_a (q_sa um 17 (upd (q_a um 17) j (nI v)))) (q_j (q_sa um 17 (upd (q_a um 17) j (nI v))) 0) := by
  obtain ⟨r1, r2, r3, r4, r6, r7, r8, r9⟩ := r
  have s7r : ∀ k ∈ s7, k ≠ 17 := by decide
  refine ⟨fun k hk i hi => ?_, ?_, ?_, ?_, ?_, ?_, fun i hi => ?_, ?_⟩
  · rw [qa_ne (s7r k hk), setA_k (s7r k hk)]; exact r1 k hk i hi
  · rw [qa_ne (by decide), setA_k (by decide)]; exact r2
  · rw [qa_ne (by decide), setA_k (by decide)]; exact r3
  · rw [qa_ne (by decide), setA_k (by decide)]; exact r4
  · rw [qa_ne (by decide), setA_k (by decide)]; exact r6
  · rw [qa_ne (by decide), setA_k (by decide)]; exact r7
  · rw [qa_eq]
    by_cases c2 : i = j
    · rw [c2, up_s, setA_s]
    · rw [up_n c2, setA_n c2]; exact r8 i hi
  · rw [qa_ne (by decide), setA_k (by decide)]; exact r9
theorem m_giveBlock {Ls x : Nat} {A : Nat → Nat → Nat} {nm : Nat → Int64} {dm : Nat → Bool} {N : Nat} {um : q_St} (hl : 256 ≤ Ls ∧ Ls ≤ 2048) (r : RM Ls A nm (q_a um) (q_j um 0)) (s : MS Ls dm um) (h7 : q_i um 7 = nI 80) (hx : x < Ls) : ∃ vm, fX11_giveBlock N (nI x) um = some ((), vm) ∧ RM Ls (setA A 17 x 0) nm (q_a vm) (q_j vm 0) ∧ MS Ls (setb (setb dm (80 + x / 512) true) x false) vm ∧ Fr [25] [17, 33] [] um vm := by
  have r1 := RM_17 (j := x) (v := 0) r
  obtain ⟨u1, hu1⟩ : ∃ q, q = q_sa um 17 (upd (q_a um 17) x (nI 0)) := ⟨_, rfl⟩
  rw [← hu1] at r1
  have s1 : MS Ls dm u1 := ⟨by rw [hu1, qa_ne (by decide)]; exact s.1, by rw [hu1]; exact s.2⟩
  obtain ⟨u2, a1, a2⟩ := m_soil (N := N) hl.2 s1 (x := 80 + x / 512) (by omega)
  obtain ⟨u3, b1, b2⟩ := m_wash (N := N) hl.2 a2 hx
  have f1 := fr_X11_soil a1
  have f2 := fr_X11_wash b1
  have e7 : q_i u1 7 = nI 80 := by rw [hu1]; exact h7
  refine ⟨u3, ?_, RM_fr r1 (fun k q1 q2 => ?_) ?_, b2, ?_⟩
  · unfold fX11_giveBlock
    rw [qw_n (by omega) (by omega), cl_n (by omega), nar_0, show (0 : Int32) = nI 0 from rfl, ← hu1]
    unfold fX11_soilMap
    rw [e7, show nI x / (512 : Int32) = nI (x / 512) from pk_div (d := 512) (by omega) (by decide) (by decide), nI_add, a1, qb_s, qb_s, b1, qb_s]
  · rw [f2.2.1 k (by simp only [List.mem_cons, List.not_mem_nil, or_false]; omega), f1.2.1 k (by simp only [List.mem_cons, List.not_mem_nil, or_false]; omega)]
  · rw [f2.2.2 0 (by decide), f1.2.2 0 (by decide)]
  · have q1 : Fr [25] [17, 33] [] um u1 := by rw [hu1]; exact fr_sa1 _ (by decide)
    exact (q1.trans (f1.mono (by decide) (by decide) (by decide))).trans (f2.mono (by decide) (by decide) (by decide))
theorem GM_0 {A : Nat → Nat → Nat} {W na n Ls : Nat} {dm : Nat → Bool} (h17 : ∀ x, A 17 x ≤ 1) : GM A W na n Ls (fun _ => false) A dm dm := by
  refine ⟨fun r h => (by cases h), fun k _ _ _ => rfl, fun j => ?_, fun j => ?_, fun x => ⟨h17 x, fun h => ⟨h, fun ⟨r, q, _⟩ => (by cases q)⟩, fun h => h.1⟩, DT_0, fun h => h⟩
  · rw [if_neg (fun z => by cases z.2)]
  · rw [if_neg (fun z => by cases z.2)]
/-- one role, behind what soils its teller and takes it out of its row -/
theorem gm_op {B T S C W Ls na n r0 x : Nat} {A A1 A1' : Nat → Nat → Nat} {nm : Nat → Int64} {dm dm1 dm1' P : Nat → Bool} {N : Nat} {um : q_St} (g : Geo B T S C W Ls) (hna : na = 80 + (Ls + 511) / 512) (t3 : TW3 W Ls (na + 64) A) (hn : n < 64) (gm : GM A W na n Ls P A1 dm dm1) (hx : tl A W n r0 = x) (hx0 : x ≠ 0) (hP0 : P r0 = false) (hal : own r0 = true ∨ (tl A W n (trl r0) ≠ 0 ∧ P (trl r0) = false)) (rm : RM Ls A1' nm (q_a um) (q_j um 0)) (ms : MS Ls dm1' um) (h7 : q_i um 7 = nI 80)
    (hA : ∀ k j, A1' k j = if (k = 9 ∧ r0 < 1068 ∧ j = 1068 * n + r0) ∨ (k = 10 ∧ 1068 ≤ r0 ∧ r0 < 1102 ∧ j = 34 * n + (r0 - 1068)) then 0 else A1 k j) (hd : ∀ z, z < Ls → z ≠ na + n → dm1' z = if z = tel A W na n r0 then true else dm1 z) (hd' : dm1 (na + n) = true → dm1' (na + n) = true) :
    ∃ vm A2 dm2, fX11_giveBlock N (nI x) um = some ((), vm) ∧ RM Ls A2 nm (q_a vm) (q_j vm 0) ∧ MS Ls dm2 vm ∧ GM A W na n Ls (setb P r0 true) A2 dm dm2 ∧ Fr [25] [17, 33] [] um vm := by
  have hl := g.l
  obtain ⟨g1, g2, g3, g4, g5, g6, g7⟩ := gm
  have hr := t3.2.1 n r0 hn (by rw [hx]; exact hx0)
  rw [hx] at hr
  obtain ⟨vm, a1, a2, a3, a4⟩ := m_giveBlock (N := N) hl rm ms h7 hr.2.1
  have hs : tel A W na n r0 ≠ x ∧ ¬ gvn A W n P (tel A W na n r0) := by
    unfold tel
    by_cases c : own r0 = true
    · rw [if_pos c]
      refine ⟨by omega, ?_⟩
      rintro ⟨r, r1, r2⟩
      have := t3.2.1 n r hn (g1 r r1)
      omega
    · rw [if_neg c]
      rcases hal with q | ⟨q1, q2⟩
      · exact absurd q c
      · refine ⟨fun z => ?_, ?_⟩
        · have := (t3.1 n (trl r0) n r0 hn hn q1 (by rw [hx]; exact z)).2
          have h1 := trl_in c
          have h2 := own_f c
          unfold trl at this h1
          repeat' split at this
          all_goals omega
        · rintro ⟨r, r1, r2⟩
          have := (t3.1 n r n (trl r0) hn hn (g1 r r1) r2).2
          rw [this, q2] at r1
          cases r1
  refine ⟨vm, _, _, a1, a2, a3, ⟨fun r hrr => ?_, fun k k1 k2 k3 => ?_, fun j => ?_, fun j => ?_, fun z => ?_, ?_, fun q => ?_⟩, a4⟩
  · rcases sbt.mp hrr with e | e
    · rw [e, hx]; exact hx0
    · exact g1 r e
  · rw [setA_k k3]
    funext j
    rw [hA, if_neg (by omega), g2 k k1 k2 k3]
  · rw [setA_k (by decide), hA, g3]
    by_cases c : j / 1068 = n ∧ setb P r0 true (j % 1068) = true
    · rw [if_pos c]
      by_cases c2 : (9 = 9 ∧ r0 < 1068 ∧ j = 1068 * n + r0) ∨ (9 = 10 ∧ 1068 ≤ r0 ∧ r0 < 1102 ∧ j = 34 * n + (r0 - 1068))
      · rw [if_pos c2]
      · rw [if_neg c2]
        rcases sbt.mp c.2 with z | z
        · exfalso; exact c2 (Or.inl ⟨rfl, by omega, by omega⟩)
        · rw [if_pos ⟨c.1, z⟩]
    · rw [if_neg c, if_neg (fun z => ?_), if_neg (fun z => c ⟨z.1, sbt.mpr (Or.inr z.2)⟩)]
      rcases z with z | z
      · exact c ⟨by omega, sbt.mpr (Or.inl (by omega))⟩
      · omega
  · rw [setA_k (by decide), hA, g4]
    by_cases c : j / 34 = n ∧ setb P r0 true (1068 + j % 34) = true
    · rw [if_pos c]
      by_cases c2 : (10 = 9 ∧ r0 < 1068 ∧ j = 1068 * n + r0) ∨ (10 = 10 ∧ 1068 ≤ r0 ∧ r0 < 1102 ∧ j = 34 * n + (r0 - 1068))
      · rw [if_pos c2]
      · rw [if_neg c2]
        rcases sbt.mp c.2 with z | z
        · exfalso; exact c2 (Or.inr ⟨rfl, by omega, by omega, by omega⟩)
        · rw [if_pos ⟨c.1, z⟩]
    · rw [if_neg c, if_neg (fun z => ?_), if_neg (fun z => c ⟨z.1, sbt.mpr (Or.inr z.2)⟩)]
      rcases z with z | z
      · omega
      · exact c ⟨by omega, sbt.mpr (Or.inl (by omega))⟩
  · rw [gvn_s, hx]
    by_cases c : z = x
    · subst c
      rw [setA_s]
      exact ⟨by decide, fun q => (by omega), fun q => absurd (Or.inl rfl) q.2⟩
    · rw [setA_n c, hA, if_neg (by omega)]
      have q := g5 z
      refine ⟨q.1, q.2.trans ⟨fun w => ⟨w.1, fun y => y.elim c w.2⟩, fun w => ⟨w.1, fun y => w.2 (Or.inr y)⟩⟩⟩
  · refine DT_step (fb := na + 64) (x := x) (s := tel A W na n r0) g6 hx rfl hs.1 hs.2 (fun r q => (t3.2.1 n r hn (g1 r q)).1) hr.1 (by omega) (fun z hz hne => ?_)
    unfold setb
    by_cases c : z = x
    · rw [if_pos c, if_pos c]
    · rw [if_neg c, if_neg c]
      by_cases c3 : z = 80 + x / 512
      · rw [if_pos c3, if_pos (Or.inl c3)]
      · rw [if_neg c3, hd z hz hne]
        by_cases c2 : z = tel A W na n r0
        · rw [if_pos c2, if_pos (Or.inr c2)]
        · rw [if_neg c2, if_neg (fun q => q.elim c3 c2)]
  · rw [setb_n (by omega)]
    unfold setb
    split
    · rfl
    · exact hd' (g7 q)
theorem setb_k {P : Nat → Bool} {x y : Nat} (h : P y = true) : setb P x true y = true := by
  unfold setb
  split
  · rfl
  · exact h
/-- the teller of a role is soiled -/
theorem m_soilTel {B T S C W Ls na n r0 : Nat} {A : Nat → Nat → Nat} {dm : Nat → Bool} {N : Nat} {um : q_St} {o : Int32} (g : Geo B T S C W Ls) (hna : na = 80 + (Ls + 511) / 512) (t3 : TW3 W Ls (na + 64) A) (hn : n < 64) (s : MS Ls dm um) (ho : ¬ own r0 = true) (h0 : tl A W n (trl r0) ≠ 0) (e : o = nI (tl A W n (trl r0))) : ∃ vm, fX11_soil N o um = some ((), vm) ∧ MS Ls (setb dm (tel A W na n r0) true) vm := by
  have hl := g.l
  have hr := t3.2.1 n (trl r0) hn h0
  obtain ⟨vm, a1, a2⟩ := m_soil (N := N) hl.2 s hr.2.1
  refine ⟨vm, by rw [e]; exact a1, ?_⟩
  unfold tel
  rw [if_neg ho]
  exact a2
theorem m_indexOf {N p : Nat} {u : q_St} (hp : p < 1068) : fX11_indexOf N (nI p) u = some (if p < 12 then -1 else nI (ixo p), u) := by
  unfold fX11_indexOf ixo
  by_cases c : p < 12
  · rw [if_neg (show ¬ (12 : Int32) ≤ nI p from nI_ge (b := 12) c (by decide)), if_pos c]
  · rw [if_pos (show (12 : Int32) ≤ nI p from nI_le (a := 12) (by omega) (by omega)), if_neg c]
    by_cases c2 : p < 44
    · rw [if_neg (show ¬ (44 : Int32) ≤ nI p from nI_ge (b := 44) c2 (by decide)), if_pos c2]
      rfl
    · rw [if_pos (show (44 : Int32) ≤ nI p from nI_le (a := 44) (by omega) (by omega)), if_neg c2, show nI p - (44 : Int32) = nI (p - 44) from pk_sub (b := 44) (by omega), show nI (p - 44) / (32 : Int32) = nI ((p - 44) / 32) from pk_div (d := 32) (by omega) (by decide) (by decide), show (2 : Int32) + nI ((p - 44) / 32) = nI (2 + (p - 44) / 32) from nI_add 2 _]
theorem i0_ne {v : Nat} (h : v ≠ 0) : i0 v = nI v := if_neg h
theorem tel_own {A : Nat → Nat → Nat} {W na n r : Nat} (h : own r = true) : tel A W na n r = na + n := if_pos h
/-- does an INDEX tell a PIECE still? -/
theorem m_tellsSome {Ls n i : Nat} {A1 : Nat → Nat → Nat} {nm : Nat → Int64} {N : Nat} {um : q_St} (hN : 300 ≤ N) (r : RM Ls A1 nm (q_a um) (q_j um 0)) (hn : n < 64) (hi : i = 0 ∨ (2 ≤ i ∧ i < 34)) (hlt : ∀ q, q < 1068 → A1 9 (1068 * n + q) < 2 ^ 31) : (fX11_tellsSome N (nI n) (nI i) um = some (1, um) ∧ ∃ q, 12 ≤ q ∧ q < 1068 ∧ trl q = 1068 + i ∧ A1 9 (1068 * n + q) ≠ 0) ∨ (fX11_tellsSome N (nI n) (nI i) um = some (0, um) ∧ ∀ q, 12 ≤ q → q < 1068 → trl q = 1068 + i → A1 9 (1068 * n + q) = 0) := by
  obtain ⟨st, hst⟩ : ∃ st, st = if i = 0 then 12 else 44 + 32 * (i - 2) := ⟨_, rfl⟩
  have hs : 12 ≤ st ∧ st + 32 ≤ 1068 := by
    rw [hst]; split <;> omega
  have tq : ∀ q, 12 ≤ q → q < 1068 → (trl q = 1068 + i ↔ st ≤ q ∧ q < st + 32) := by
    intro q q1 q2
    unfold trl
    rw [hst]
    by_cases c : q < 44
    · rw [if_pos c]; split <;> omega
    · rw [if_neg c, if_pos q2]; split <;> omega
  have e0 : fX11_tellsSome N (nI n) (nI i) um = q_lp (fX11_tellsSome_b22 N) (fun _ _ _ _ => none) N (nI n) (nI st) (nI st) um := by
    unfold fX11_tellsSome fX11_tellsSome_b18
    by_cases c : i = 0
    · rw [if_pos (by rw [c]; rfl), hst, if_pos c]; rfl
    · rw [if_neg (nI_ne0 (by omega) (by omega)), show nI i - (2 : Int32) = nI (i - 2) from pk_sub (b := 2) (by omega), show (32 : Int32) * nI (i - 2) = nI (32 * (i - 2)) from pk_mul 32 _, show (44 : Int32) + nI (32 * (i - 2)) = nI (44 + 32 * (i - 2)) from nI_add 44 _, hst, if_neg c]
  have key : ∀ (k j m : Nat), j + k = 32 → k < m → (q_lp (fX11_tellsSome_b22 N) (fun _ _ _ _ => none) m (nI n) (nI st) (nI (st + j)) um = some (1, um) ∧ ∃ q, st + j ≤ q ∧ q < st + 32 ∧ A1 9 (1068 * n + q) ≠ 0) ∨ (q_lp (fX11_tellsSome_b22 N) (fun _ _ _ _ => none) m (nI n) (nI st) (nI (st + j)) um = some (0, um) ∧ ∀ q, st + j ≤ q → q < st + 32 → A1 9 (1068 * n + q) = 0) := by
    intro k
    induction k with
    | zero =>
      intro j m h1 h2
      right
      refine ⟨?_, fun q q1 q2 => by omega⟩
      rw [lp_1 _ _ (by omega), fX11_tellsSome_b22, show nI st + (32 : Int32) = nI (st + 32) from nI_add st 32, if_pos (nI_le (by omega) (by omega))]
    | succ k ih =>
      intro j m h1 h2
      have hv := hlt (st + j) (by omega)
      have e : q_lp (fX11_tellsSome_b22 N) (fun _ _ _ _ => none) m (nI n) (nI st) (nI (st + j)) um = if i0 (A1 9 (1068 * n + (st + j))) = -1 then q_lp (fX11_tellsSome_b22 N) (fun _ _ _ _ => none) (m - 1) (nI n) (nI st) (nI (st + j + 1)) um else some (1, um) := by
        rw [lp_1 _ _ (by omega), fX11_tellsSome_b22, show nI st + (32 : Int32) = nI (st + 32) from nI_add st 32, if_neg (nI_ge (by omega) (by omega)), show (1068 : Int32) * nI n = nI (1068 * n) from pk_mul 1068 n, nI_add, qr_n (by omega) (by omega), r.2.2.1 _ (by omega), qn_s, nI_1]
      rw [e]
      by_cases c : A1 9 (1068 * n + (st + j)) = 0
      · rw [if_pos ((i0_m1 hv).mpr c)]
        rcases ih (j + 1) (m - 1) (by omega) (by omega) with ⟨a1, q, a2, a3, a4⟩ | ⟨a1, a2⟩
        · left
          exact ⟨a1, q, by omega, a3, a4⟩
        · right
          refine ⟨a1, fun q q1 q2 => ?_⟩
          by_cases cq : q = st + j
          · rw [cq]; exact c
          · exact a2 q (by omega) q2
      · rw [if_neg (fun z => c ((i0_m1 hv).mp z))]
        exact Or.inl ⟨rfl, st + j, by omega, by omega, c⟩
  rw [e0]
  rcases key 32 0 N (by omega) (by omega) with ⟨a1, q, a2, a3, a4⟩ | ⟨a1, a2⟩
  · exact Or.inl ⟨a1, q, by omega, by omega, (tq q (by omega) (by omega)).mpr ⟨by omega, by omega⟩, a4⟩
  · refine Or.inr ⟨a1, fun q q1 q2 q3 => ?_⟩
    have := (tq q q1 q2).mp q3
    exact a2 q (by omega) (by omega)
