/-! ===== SECTORS given back: which, and what that soils ===== -/
def own (r : Nat) : Bool := decide (r < 12 ∨ r = 1068 ∨ r = 1069 ∨ 1102 ≤ r)
def trl (r : Nat) : Nat := if r < 44 then 1068 else if r < 1068 then 1070 + (r - 44) / 32 else 1069
def hpl (r : Nat) : Nat := if r < 12 then 4 + r else if r < 44 then r - 12 else if r < 1068 then (r - 44) % 32 else if r = 1068 then 16 else if r = 1069 then 17 else if r < 1102 then r - 1070 else 4 + (r - 1102)
/-- the SECTOR that tells of a role -/
def tel (A : Nat → Nat → Nat) (W na n r : Nat) : Nat := if own r = true then na + n else tl A W n (trl r)
theorem own_t {r : Nat} (h : own r = true) : r < 12 ∨ r = 1068 ∨ r = 1069 ∨ 1102 ≤ r := of_decide_eq_true h
theorem own_f {r : Nat} (h : ¬ own r = true) : (12 ≤ r ∧ r < 1068) ∨ (1070 ≤ r ∧ r < 1102) := by
  have : ¬ (r < 12 ∨ r = 1068 ∨ r = 1069 ∨ 1102 ≤ r) := fun z => h (decide_eq_true z)
  omega
theorem trl_in {r : Nat} (h : ¬ own r = true) : 1068 ≤ trl r ∧ trl r < 1102 := by
  have := own_f h
  unfold trl
  split
  · omega
  · split <;> omega
theorem hpl_lt {r : Nat} (h : r < 1114) : hpl r < 32 := by
  unfold hpl
  repeat' split
  all_goals omega
theorem hpl_own {r : Nat} (h : own r = true) (h2 : r < 1114) : 4 ≤ hpl r ∧ hpl r < 18 := by
  have := own_t h
  unfold hpl
  repeat' split
  all_goals omega
/-- the roles that a NODE tells -/
def rk (A : Nat → Nat → Nat) (n r : Nat) : Prop := (A 5 n = 1 ∧ r < 1102) ∨ (A 5 n = 2 ∧ 1102 ≤ r ∧ r < 1114)
theorem hpl_inj {r r' : Nat} (h1 : (r < 1102 ∧ r' < 1102) ∨ (1102 ≤ r ∧ r < 1114 ∧ 1102 ≤ r' ∧ r' < 1114)) (ho : own r = own r') (ht : ¬ own r = true → trl r = trl r') (hh : hpl r = hpl r') : r = r' := by
  by_cases c : own r = true
  · have a := own_t c
    have b := own_t (ho ▸ c)
    unfold hpl at hh
    repeat' split at hh
    all_goals omega
  · have a := own_f c
    have b := own_f (r := r') (fun z => c (ho.trans z))
    have t := ht c
    unfold hpl at hh
    unfold trl at t
    repeat' split at hh
    all_goals (repeat' split at t)
    all_goals omega
def gvn (A : Nat → Nat → Nat) (W n : Nat) (P : Nat → Bool) (z : Nat) : Prop := ∃ r, P r = true ∧ tl A W n r = z
def DT (A : Nat → Nat → Nat) (W na n Ls : Nat) (P dd dd1 : Nat → Bool) : Prop := ∀ z, z < Ls → z ≠ na + n → (dd1 z = true ↔ ¬ gvn A W n P z ∧ ((∃ r, P r = true ∧ (z = 80 + tl A W n r / 512 ∨ z = tel A W na n r)) ∨ dd z = true))
theorem sbt {P : Nat → Bool} {r0 r : Nat} : setb P r0 true r = true ↔ r = r0 ∨ P r = true := by
  unfold setb
  by_cases c : r = r0
  · rw [if_pos c]; simp [c]
  · rw [if_neg c]; simp [c]
theorem gvn_s {A : Nat → Nat → Nat} {W n : Nat} {P : Nat → Bool} {r0 z : Nat} : gvn A W n (setb P r0 true) z ↔ z = tl A W n r0 ∨ gvn A W n P z := by
  unfold gvn
  constructor
  · rintro ⟨r, h1, h2⟩
    rcases sbt.mp h1 with e | e
    · left; rw [← h2, e]
    · exact Or.inr ⟨r, e, h2⟩
  · rintro (e | ⟨r, h1, h2⟩)
    · exact ⟨r0, sbt.mpr (Or.inl rfl), e.symm⟩
    · exact ⟨r, sbt.mpr (Or.inr h1), h2⟩
theorem DT_0 {A : Nat → Nat → Nat} {W na n Ls : Nat} {dd : Nat → Bool} : DT A W na n Ls (fun _ => false) dd dd := by
  intro z hz hne
  constructor
  · intro h
    exact ⟨fun ⟨r, h1, h2⟩ => (by cases h1), Or.inr h⟩
  · rintro ⟨-, h⟩
    rcases h with ⟨r, h1, h2⟩ | h
    · cases h1
    · exact h
theorem DT_step {A : Nat → Nat → Nat} {W na n Ls fb r0 x s : Nat} {P dd dd1 dd2 : Nat → Bool} (d : DT A W na n Ls P dd dd1) (hx : tl A W n r0 = x) (hs : tel A W na n r0 = s) (hxs : s ≠ x) (hal : ¬ gvn A W n P s) (hP : ∀ r, P r = true → fb ≤ tl A W n r) (hfx : fb ≤ x) (hm : 80 + x / 512 < fb) (h2 : ∀ z, z < Ls → z ≠ na + n → dd2 z = (if z = x then false else if z = 80 + x / 512 ∨ z = s then true else dd1 z)) : DT A W na n Ls (setb P r0 true) dd dd2 := by
  intro z hz hne
  rw [h2 z hz hne, gvn_s, hx]
  by_cases c : z = x
  · rw [if_pos c]
    exact ⟨fun q => (by cases q), fun q => absurd (Or.inl c) q.1⟩
  · rw [if_neg c]
    by_cases c2 : z = 80 + x / 512 ∨ z = s
    · rw [if_pos c2]
      refine ⟨fun _ => ⟨?_, Or.inl ⟨r0, sbt.mpr (Or.inl rfl), by rw [hx, hs]; exact c2⟩⟩, fun _ => rfl⟩
      rintro (q | q)
      · exact c q
      · rcases c2 with e | e
        · obtain ⟨r, r1, r2⟩ := q
          have := hP r r1
          omega
        · rw [e] at q
          exact hal q
    · rw [if_neg c2]
      have q := d z hz hne
      rw [q]
      constructor
      · rintro ⟨a1, a2⟩
        refine ⟨fun w => w.elim c a1, ?_⟩
        rcases a2 with ⟨r, r1, r2⟩ | a2
        · exact Or.inl ⟨r, sbt.mpr (Or.inr r1), r2⟩
        · exact Or.inr a2
      · rintro ⟨a1, a2⟩
        refine ⟨fun w => a1 (Or.inr w), ?_⟩
        rcases a2 with ⟨r, r1, r2⟩ | a2
        · rcases sbt.mp r1 with e | e
          · exfalso
            rw [e, hx, hs] at r2
            exact c2 r2
          · exact Or.inl ⟨r, e, r2⟩
        · exact Or.inr a2
theorem DT_cg {A : Nat → Nat → Nat} {W na n Ls : Nat} {P Q dd dd1 : Nat → Bool} (d : DT A W na n Ls P dd dd1) (h : ∀ r, P r = Q r) : DT A W na n Ls Q dd dd1 := by
  have : P = Q := funext h
  rw [← this]
  exact d
/-- both soil alike -/
theorem DT_eq {A : Nat → Nat → Nat} {W na n Ls : Nat} {P dd dm dd1 dm1 : Nat → Bool} (d : DT A W na n Ls P dd dd1) (m : DT A W na n Ls P dm dm1) (h : ∀ z, z < Ls → z ≠ na + n → dd z = dm z) {z : Nat} (hz : z < Ls) (hne : z ≠ na + n) : dd1 z = dm1 z := by
  have a := d z hz hne
  have b := m z hz hne
  rw [h z hz hne] at a
  rw [Bool.eq_iff_iff, a, b]
/-- the class -/
def GB (A : Nat → Nat → Nat) (W na n Ls : Nat) (P : Nat → Bool) (K K1 : Nat → Nat → Int64) (dd dd1 : Nat → Bool) : Prop :=
  (∀ r, P r = true → tl A W n r ≠ 0) ∧ (∀ x, x < 64 * ((Ls + 63) / 64) → (bt (K1 (80 + x / 512) (x % 512 / 64)) (x % 64) = true ↔ x < Ls ∧ A 17 x = 1 ∧ ¬ gvn A W n P x)) ∧ (∀ r, rk A n r → (own r = true ∨ (tl A W n (trl r) ≠ 0 ∧ P (trl r) = false)) → sH (K1 (tel A W na n r)) (hpl r) = if P r = true then 0 else tl A W n r) ∧ (∀ y w, na ≤ y → y < Ls → y ≠ na + n → (∀ r, tl A W n r = y → r < 1068 ∧ P r = false) → K1 y w = K y w) ∧ (∀ w, w ≠ 1 → w ≠ 2 → w ≠ 3 → w ≠ 4 → K1 (na + n) w = K (na + n) w) ∧ DT A W na n Ls P dd dd1 ∧ (dd (na + n) = true → dd1 (na + n) = true)
theorem bt_one (k : Nat) : bt 1 k = decide (k = 0) := by
  unfold bt
  rw [show uN 1 = 2 ^ 0 from by decide +kernel]
  exact pow_bit 0 k
theorem bt_clr {w : Int64} {s i : Nat} (hs : s < 64) (hi : i < 64) : bt (w &&& ((q_lshl 1 (nI s)) ^^^ (-1))) i = (bt w i && !decide (i = s)) := by
  rw [bt_and, bt_not _ hi, bt_lshl _ hs hi, bt_one]
  by_cases c : i = s
  · subst c
    simp
  · by_cases c2 : s ≤ i
    · have : ¬ i - s = 0 := by omega
      simp [c, c2, this]
    · simp [c, c2]
theorem x_giveBack {B T S C W Ls hb x : Nat} {um : q_St} {D K : Nat → Nat → Int64} {dd : Nat → Bool} {L : Nat → Nat} {N : Nat} {ux : q_St} (g : Geo B T S C W Ls) (gl : gL B C W Ls L) (s : XS B T S C W Ls hb um D K dd ux) (hx : x < Ls) : ∃ vx, fX5_giveBack L N (nI x) ux = some ((), vx) ∧ XS B T S C W Ls hb um D (updD (setW K (80 + x / 512) (x % 512 / 64) (K (80 + x / 512) (x % 512 / 64) &&& ((q_lshl 1 (nI (x % 64))) ^^^ (-1)))) x (D x)) (setb (setb dd (80 + x / 512) true) x false) vx := by
  have hl := g.l
  have h1 := x_word (N := N) g gl s (x := 80 + x / 512) (w := x % 512 / 64) (by omega) (by omega)
  obtain ⟨u1, a1, a2⟩ := x_setWord (N := N) (v := K (80 + x / 512) (x % 512 / 64) &&& ((q_lshl 1 (nI (x % 64))) ^^^ (-1))) g gl s (x := 80 + x / 512) (w := x % 512 / 64) (by omega) (by omega)
  obtain ⟨u2, b1, b2⟩ := x_forget (N := N) g gl a2 hx
  refine ⟨u2, ?_, b2⟩
  unfold fX5_giveBack
  rw [show nI x / (512 : Int32) = nI (x / 512) from pk_div (d := 512) (by omega) (by decide) (by decide), show nI (x / 512) * (512 : Int32) = nI (x / 512 * 512) from pk_mul _ 512, pk_sub (by omega), show x - x / 512 * 512 = x % 512 by omega, show nI (x % 512) / (64 : Int32) = nI (x % 512 / 64) from pk_div (d := 64) (by omega) (by decide) (by decide), qn_s, show (80 : Int32) + nI (x / 512) = nI (80 + x / 512) from nI_add 80 _, h1, qb_s, show nI x - nI x / (64 : Int32) * 64 = nI (x % 64) from rem_n (d := 64) (by omega) (by decide) (by decide), a1, qb_s, b1, qb_s]
/-- one role: the SECTOR is given back -/
theorem gb_a {B T S C W Ls na hb n r0 x : Nat} {um : q_St} {D K K1 : Nat → Nat → Int64} {dd dd1 P : Nat → Bool} {A : Nat → Nat → Nat} {L : Nat → Nat} {N : Nat} {ux : q_St} (g : Geo B T S C W Ls) (gl : gL B C W Ls L) (hna : na = 80 + (Ls + 511) / 512) (t3 : TW3 W Ls (na + 64) A) (hn : n < 64) (s : XS B T S C W Ls hb um D K1 dd1 ux) (hx : tl A W n r0 = x) (hx0 : x ≠ 0) (b : GB A W na n Ls P K K1 dd dd1) :
    ∃ u1 K2, fX5_giveBack L N (nI x) ux = some ((), u1) ∧ XS B T S C W Ls hb um D K2 (setb (setb dd1 (80 + x / 512) true) x false) u1 ∧ (∀ z, z < 64 * ((Ls + 63) / 64) → (bt (K2 (80 + z / 512) (z % 512 / 64)) (z % 64) = true ↔ z < Ls ∧ A 17 z = 1 ∧ ¬ gvn A W n (setb P r0 true) z)) ∧ (∀ y w, na ≤ y → y ≠ x → K2 y w = K1 y w) ∧ Fr [13, 22] [5] [2] ux u1 := by
  have hl := g.l
  have hr := t3.2.1 n r0 hn (by rw [hx]; exact hx0)
  rw [hx] at hr
  obtain ⟨u1, a1, a2⟩ := x_giveBack (N := N) g gl s hr.2.1
  refine ⟨u1, _, a1, a2, fun z hz => ?_, fun y w hy hyx => ?_, (fr_X5_giveBack a1).mono (by decide) (by decide) (by decide)⟩
  · have m := b.2.1 z hz
    unfold updD
    rw [if_neg (by omega), gvn_s, hx]
    by_cases c : 80 + z / 512 = 80 + x / 512 ∧ z % 512 / 64 = x % 512 / 64
    · rw [c.1, c.2, setW_s, bt_clr (by omega) (by omega)]
      rw [c.1, c.2] at m
      by_cases c2 : z % 64 = x % 64
      · have e : z = x := by omega
        rw [decide_eq_true c2]
        simp only [Bool.not_true, Bool.and_false]
        exact ⟨fun q => (by cases q), fun q => absurd (Or.inl e) q.2.2⟩
      · rw [decide_eq_false c2]
        simp only [Bool.not_false, Bool.and_true]
        rw [m]
        have e : z ≠ x := fun q => c2 (by rw [q])
        exact ⟨fun q => ⟨q.1, q.2.1, fun w => w.elim e q.2.2⟩, fun q => ⟨q.1, q.2.1, fun w => q.2.2 (Or.inr w)⟩⟩
    · rw [setW_n c, m]
      have e : z ≠ x := fun q => c (by rw [q]; exact ⟨rfl, rfl⟩)
      exact ⟨fun q => ⟨q.1, q.2.1, fun w => w.elim e q.2.2⟩, fun q => ⟨q.1, q.2.1, fun w => q.2.2 (Or.inr w)⟩⟩
  · unfold updD
    rw [if_neg hyx, setW_n (by omega)]
/-- and told no more -/
theorem gb_op {B T S C W Ls na hb n r0 x : Nat} {um : q_St} {D K K1 : Nat → Nat → Int64} {dd dd1 P : Nat → Bool} {A : Nat → Nat → Nat} {L : Nat → Nat} {N : Nat} {ux : q_St} (g : Geo B T S C W Ls) (gl : gL B C W Ls L) (hna : na = 80 + (Ls + 511) / 512) (t3 : TW3 W Ls (na + 64) A) (hn : n < 64) (s : XS B T S C W Ls hb um D K1 dd1 ux) (hx : tl A W n r0 = x) (hx0 : x ≠ 0) (b : GB A W na n Ls P K K1 dd dd1) (hrk : rk A n r0) (hP0 : P r0 = false) (hal : own r0 = true ∨ (tl A W n (trl r0) ≠ 0 ∧ P (trl r0) = false)) :
    ∃ u1 u2 K2 dd2, fX5_giveBack L N (nI x) ux = some ((), u1) ∧ fX6_setHalf L N (nI (tel A W na n r0)) (nI (hpl r0)) 0 u1 = some ((), u2) ∧ XS B T S C W Ls hb um D K2 dd2 u2 ∧ GB A W na n Ls (setb P r0 true) K K2 dd dd2 ∧ Fr [13, 22] [5] [2] ux u2 := by
  have hl := g.l
  have hr := t3.2.1 n r0 hn (by rw [hx]; exact hx0)
  rw [hx] at hr
  have hr0 : r0 < 1114 := by unfold rk at hrk; omega
  obtain ⟨u1, K2, a1, a2, a3, a4, a5⟩ := gb_a (N := N) (r0 := r0) g gl hna t3 hn s hx hx0 b
  obtain ⟨b1, b2, b3, b4, b5, b6, b7⟩ := b
  have hs : tel A W na n r0 < Ls ∧ tel A W na n r0 ≠ x ∧ na ≤ tel A W na n r0 ∧ ¬ gvn A W n P (tel A W na n r0) := by
    unfold tel
    by_cases c : own r0 = true
    · rw [if_pos c]
      refine ⟨by omega, by omega, by omega, ?_⟩
      rintro ⟨r, r1, r2⟩
      have := t3.2.1 n r hn (b1 r r1)
      omega
    · rw [if_neg c]
      rcases hal with q | ⟨q1, q2⟩
      · exact absurd q c
      · have ht := t3.2.1 n (trl r0) hn q1
        refine ⟨ht.2.1, fun z => ?_, by omega, ?_⟩
        · have := (t3.1 n (trl r0) n r0 hn hn q1 (by rw [hx]; exact z)).2
          have h1 := trl_in c
          have h2 := own_f c
          unfold trl at this h1
          repeat' split at this
          all_goals omega
        · rintro ⟨r, r1, r2⟩
          have := (t3.1 n r n (trl r0) hn hn (b1 r r1) r2).2
          rw [this] at r1
          rw [q2] at r1
          cases r1
  obtain ⟨u2, c1, c2⟩ := x_setHalf (N := N) (n := 0) g gl a2 (x := tel A W na n r0) (i := hpl r0) hs.1 (hpl_lt hr0)
  refine ⟨u1, u2, _, _, a1, c1, c2, ⟨fun r hrr => ?_, fun z hz => ?_, fun r hr1 ha => ?_, fun y w hy hyL hyn hu => ?_, fun w w1 w2 w3 w4 => ?_, ?_, fun q => ?_⟩, a5.trans ((fr_X6_setHalf c1).mono (by decide) (by decide) (by decide))⟩
  · rcases sbt.mp hrr with e | e
    · rw [e, hx]; exact hx0
    · exact b1 r e
  · rw [setH_w (fun q => by omega)]
    exact a3 z hz
  · have hP : own r = true ∨ (tl A W n (trl r) ≠ 0 ∧ P (trl r) = false) := by
      rcases ha with q | ⟨q1, q2⟩
      · exact Or.inl q
      · exact Or.inr ⟨q1, setb_f q2⟩
    have old := b3 r hr1 hP
    have htx : tel A W na n r ≠ x ∧ na ≤ tel A W na n r := by
      unfold tel
      by_cases c : own r = true
      · rw [if_pos c]; omega
      · rw [if_neg c]
        rcases ha with q | ⟨q1, q2⟩
        · exact absurd q c
        · have ht := t3.2.1 n (trl r) hn q1
          refine ⟨fun z => ?_, by omega⟩
          have := (t3.1 n (trl r) n r0 hn hn q1 (by rw [hx]; exact z)).2
          rw [this] at q2
          rw [setb_s] at q2
          cases q2
    have eK : K2 (tel A W na n r) = K1 (tel A W na n r) := by funext w; exact a4 _ _ htx.2 htx.1
    rw [sH_set (by decide), eK]
    by_cases c : r = r0
    · subst c
      rw [if_pos ⟨rfl, rfl⟩, if_pos (sbt.mpr (Or.inl rfl))]
    · have hinj : ¬ (tel A W na n r = tel A W na n r0 ∧ hpl r = hpl r0) := by
        rintro ⟨e1, e2⟩
        apply c
        have h0 : (r < 1102 ∧ r0 < 1102) ∨ (1102 ≤ r ∧ r < 1114 ∧ 1102 ≤ r0 ∧ r0 < 1114) := by
          unfold rk at hr1 hrk
          omega
        unfold tel at e1
        by_cases o1 : own r = true
        · by_cases o2 : own r0 = true
          · exact hpl_inj h0 (o1.trans o2.symm) (fun z => absurd o1 z) e2
          · exfalso
            rw [if_pos o1, if_neg o2] at e1
            rcases hal with q | ⟨q1, q2⟩
            · exact o2 q
            · have := t3.2.1 n (trl r0) hn q1
              omega
        · by_cases o2 : own r0 = true
          · exfalso
            rw [if_neg o1, if_pos o2] at e1
            rcases hP with q | ⟨q1, q2⟩
            · exact o1 q
            · have := t3.2.1 n (trl r) hn q1
              omega
          · rw [if_neg o1, if_neg o2] at e1
            rcases hP with q | ⟨q1, q2⟩
            · exact absurd q o1
            · have e3 := (t3.1 n (trl r) n (trl r0) hn hn q1 e1).2
              refine hpl_inj h0 ?_ (fun _ => e3) e2
              cases h5 : own r with
              | true => exact absurd h5 o1
              | false =>
                cases h6 : own r0 with
                | true => exact absurd h6 o2
                | false => rfl
      rw [if_neg hinj, old, setb_n c]
  · have hyx : y ≠ x := fun z => by
      have := (hu r0 (by rw [hx, z])).2
      rw [setb_s] at this
      cases this
    have hys : y ≠ tel A W na n r0 := by
      intro z
      unfold tel at z
      by_cases c : own r0 = true
      · rw [if_pos c] at z; exact hyn z
      · rw [if_neg c] at z
        have h1 := (hu (trl r0) z.symm).1
        have h2 := trl_in c
        omega
    rw [setH_w (fun q => hys q.1), a4 y w hy hyx]
    exact b4 y w hy hyL hyn (fun r hr2 => ⟨(hu r hr2).1, setb_f (hu r hr2).2⟩)
  · rw [setH_w (fun q => ?_), a4 _ _ (by omega) (by omega)]
    · exact b5 w w1 w2 w3 w4
    · have e := q.1
      unfold tel at e
      by_cases c : own r0 = true
      · have := hpl_own c hr0
        omega
      · rw [if_neg c] at e
        rcases hal with q | ⟨q1, q2⟩
        · exact absurd q c
        · have := t3.2.1 n (trl r0) hn q1
          omega
  · refine DT_step (fb := na + 64) (x := x) (s := tel A W na n r0) b6 hx rfl hs.2.1 hs.2.2.2 (fun r q => (t3.2.1 n r hn (b1 r q)).1) hr.1 (by omega) (fun z hz hne => ?_)
    unfold setb
    by_cases c : z = x
    · rw [if_neg (fun q => hs.2.1 (q.symm.trans c)), if_pos c, if_pos c]
    · rw [if_neg c, if_neg c]
      by_cases c2 : z = tel A W na n r0
      · rw [if_pos c2, if_pos (Or.inr c2)]
      · rw [if_neg c2]
        by_cases c3 : z = 80 + x / 512
        · rw [if_pos c3, if_pos (Or.inl c3)]
        · rw [if_neg c3, if_neg (fun q => q.elim c3 c2)]
  · unfold setb
    by_cases c : na + n = tel A W na n r0
    · rw [if_pos c]
    · rw [if_neg c, if_neg (by omega)]
      split
      · rfl
      · exact b7 q
