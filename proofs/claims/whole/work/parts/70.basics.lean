/-! ===== the pure part: words on states, numbers, loops ===== -/
theorem qi_si (σ : q_St) (k : Nat) (v : Int32) (j : Nat) : q_i (q_si σ k v) j = if j = k then v else q_i σ j := rfl
theorem qi_sa (σ : q_St) (k : Nat) (f : Nat → Int32) (j : Nat) : q_i (q_sa σ k f) j = q_i σ j := rfl
theorem qi_sj (σ : q_St) (k : Nat) (f : Nat → Int64) (j : Nat) : q_i (q_sj σ k f) j = q_i σ j := rfl
theorem qa_si (σ : q_St) (k : Nat) (v : Int32) (j : Nat) : q_a (q_si σ k v) j = q_a σ j := rfl
theorem qa_sa (σ : q_St) (k : Nat) (f : Nat → Int32) (j : Nat) : q_a (q_sa σ k f) j = if j = k then f else q_a σ j := rfl
theorem qa_sj (σ : q_St) (k : Nat) (f : Nat → Int64) (j : Nat) : q_a (q_sj σ k f) j = q_a σ j := rfl
theorem qj_si (σ : q_St) (k : Nat) (v : Int32) (j : Nat) : q_j (q_si σ k v) j = q_j σ j := rfl
theorem qj_sa (σ : q_St) (k : Nat) (f : Nat → Int32) (j : Nat) : q_j (q_sa σ k f) j = q_j σ j := rfl
theorem qj_sj (σ : q_St) (k : Nat) (f : Nat → Int64) (j : Nat) : q_j (q_sj σ k f) j = if j = k then f else q_j σ j := rfl
theorem qb_s {ρ β : Type} (r : ρ) (σ : q_St) (K : ρ → q_St → Option β) : q_bnd (some (r, σ)) K = K r σ := rfl
theorem qn_s {α β : Type} (v : α) (K : α → Option β) : q_nm v K = K v := rfl
theorem qr_n {α β : Type} {n i : Nat} {f : Nat → α} {K : α → Option β} (h : i < n) (hn : n < 2 ^ 31) : q_rd n f (nI i) K = K (f i) := by
  have h1 : ¬ (nI i < 0 ∨ n ≤ (nI i).toNatClampNeg) := nI_in h hn
  unfold q_rd
  rw [if_neg h1, nI_clamp (by omega)]
theorem qw_n {β : Type} {n i : Nat} {σ1 : q_St} {K : q_St → Option β} (h : i < n) (hn : n < 2 ^ 31) : q_wa n (nI i) σ1 K = K σ1 := by
  have h1 : ¬ (nI i < 0 ∨ n ≤ (nI i).toNatClampNeg) := nI_in h hn
  unfold q_wa
  rw [if_neg h1]
theorem qd_n {β : Type} {y : Nat} {K : Option β} (h : 0 < y) (hy : y < 2 ^ 31) : q_dv (nI y) K = K := by
  unfold q_dv
  rw [if_neg (nI_ne0 h hy)]
theorem rem_n {a d : Nat} (ha : a < 2 ^ 31) (h0 : 0 < d) (hd : d < 2 ^ 31) : nI a - nI a / nI d * nI d = nI (a % d) := pk_rem ha h0 hd
theorem cl_n {n : Nat} (h : n < 2 ^ 31) : Int32.toNatClampNeg (nI n) = n := nI_clamp h
theorem up_s {f : Nat → Int32} {k : Nat} {x : Int32} : upd f k x k = x := by simp [upd]
theorem up_n {f : Nat → Int32} {k j : Nat} {x : Int32} (h : j ≠ k) : upd f k x j = f j := by simp [upd, h]
theorem nI_inj {a b : Nat} (ha : a < 2 ^ 31) (hb : b < 2 ^ 31) (h : nI a = nI b) : a = b := (nI_eq ha hb).mp h
theorem m1_lt (n : Nat) (h : n < 2 ^ 31) : (-1 : Int32) < nI n := by
  rw [Int32.lt_iff_toInt_lt, nI_toInt h]
  have : (-1 : Int32).toInt = -1 := by decide
  omega
theorem m1_ne (n : Nat) (h : n < 2 ^ 31) : ¬ nI n = (-1 : Int32) := by
  intro q
  have a := nI_toInt h
  rw [q] at a
  have : (-1 : Int32).toInt = -1 := by decide
  omega
theorem m99_ne (n : Nat) (h : n < 2 ^ 31) : ¬ nI n = (-99 : Int32) := by
  intro q
  have a := nI_toInt h
  rw [q] at a
  have : (-99 : Int32).toInt = -99 := by decide
  omega
/-- a flag of the machine -/
def b2i (b : Bool) : Int32 := if b = true then 1 else 0
theorem b2i_t : b2i true = 1 := rfl
theorem b2i_f : b2i false = 0 := rfl
theorem nar_b2i (b : Bool) : vp_nar .boolean (b2i b) = b2i b := by cases b <;> rfl
theorem nar_0 : vp_nar .boolean 0 = 0 := rfl
theorem nar_1 : vp_nar .boolean 1 = 1 := rfl
/-- how many below n -/
def cnt (P : Nat → Bool) : Nat → Nat
  | 0 => 0
  | n + 1 => cnt P n + if P n = true then 1 else 0
theorem cnt_le (P : Nat → Bool) : ∀ n, cnt P n ≤ n
  | 0 => Nat.le_refl _
  | n + 1 => by
    have := cnt_le P n
    simp only [cnt]
    split <;> omega
theorem cnt_congr {P Q : Nat → Bool} : ∀ {n : Nat}, (∀ i, i < n → P i = Q i) → cnt P n = cnt Q n
  | 0, _ => rfl
  | n + 1, h => by
    simp only [cnt]
    rw [cnt_congr (fun i hi => h i (by omega)), h n (by omega)]
/-- a loop's one turn -/
theorem lp_1 {F : Type} (b : F → F) (z : F) {n : Nat} (h : 0 < n) : q_lp b z n = b (q_lp b z (n - 1)) := by
  obtain ⟨k, rfl⟩ : ∃ k, n = k + 1 := ⟨n - 1, by omega⟩
  rfl
