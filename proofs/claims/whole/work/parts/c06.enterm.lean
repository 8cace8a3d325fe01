/-! ===== the reference takes a BLOCK, enters a SLOT, bears a NODE ===== -/
theorem m_freeSlot {Ls : Nat} {A : Nat → Nat → Nat} {nm : Nat → Int64} {N : Nat} {um : q_St} (r : RM Ls A nm (q_a um) (q_j um 0)) (hN : 300 ≤ N) {d : Nat} (hd : d < 64) (h8 : A 8 d ≤ 12) (h14 : ∀ j, j < 3072 → A 14 j ≠ 0 → A 14 j < 64) : fX11_freeSlot N (nI d) um = some (slM d (4 * A 8 d) (fnd (sF A d) (4 * A 8 d) 0), um) := by
  have key : ∀ (k j n : Nat), j + k = 4 * A 8 d → k < n → q_lp (fX11_freeSlot_b5 N) (fun _ _ _ => none) n (nI d) (nI (48 * d + j)) um = some (slM d (4 * A 8 d) (fnd (sF A d) k j), um) := by
    intro k
    induction k with
    | zero =>
      intro j n h1 h2
      rw [lp_1 _ _ (by omega), fX11_freeSlot_b5, m_slots4 r hd, qb_s, show (48 : Int32) * nI d = nI (48 * d) from pk_mul 48 _, nI_add, if_pos (nI_le (by omega) (by omega))]
      unfold slM
      rw [if_neg (show ¬ fnd (sF A d) 0 j < 4 * A 8 d by show ¬ j < 4 * A 8 d; omega)]
    | succ k ih =>
      intro j n h1 h2
      obtain ⟨q1, q2⟩ := r.2.2.2.2.2.1 (48 * d + j) (by omega)
      have ihh := ih (j + 1) (n - 1) (by omega) (by omega)
      rw [show 48 * d + (j + 1) = 48 * d + j + 1 by omega] at ihh
      rw [lp_1 _ _ (by omega), fX11_freeSlot_b5, m_slots4 r hd, qb_s, show (48 : Int32) * nI d = nI (48 * d) from pk_mul 48 _, nI_add, if_neg (nI_ge (by omega) (by omega)), qr_n (by omega) (by omega), q1, fnd_1]
      by_cases c : A 14 (48 * d + j) = 0
      · have hs : sF A d j = true := by unfold sF; exact decide_eq_true c
        rw [if_pos ((i0_m1 (by omega)).mpr c), if_pos hs]
        unfold slM
        rw [if_pos (by omega)]
      · have h64 := h14 (48 * d + j) (by omega) c
        have hs : ¬ sF A d j = true := by unfold sF; simp [c]
        rw [if_neg (fun z => c ((i0_m1 (by omega)).mp z)), if_neg hs, qn_s, nI_1]
        exact ihh
  unfold fX11_freeSlot
  rw [show (48 : Int32) * nI d = nI (48 * d) from pk_mul 48 _, qn_s]
  exact key (4 * A 8 d) 0 N (by omega) (by omega)
/-- free, and not in a band -/
def frB (A : Nat → Nat → Nat) (W : Nat) (b : Option Nat) (x : Nat) : Bool := decide (A 17 x = 0) && decide (b ≠ some (x / W))
theorem m_freeBlock {B T S C W Ls fb : Nat} {A : Nat → Nat → Nat} {nm : Nat → Int64} {N : Nat} {um : q_St} (g : Geo B T S C W Ls) (hN : 3000 ≤ N) (hfb : fb ≤ Ls) (r : RM Ls A nm (q_a um) (q_j um 0)) (h5 : q_i um 5 = nI Ls) (h4 : q_i um 4 = nI W) (h6 : q_i um 6 = nI fb) (h17 : ∀ x, A 17 x ≤ 1) (b : Option Nat) (hb : ∀ k, b = some k → k < B) : fX11_freeBlock N (bno b) um = some (if fnd (frB A W b) (Ls - fb) fb < Ls then nI (fnd (frB A W b) (Ls - fb) fb) else -1, um) := by
  have hl := g.l
  have hw := g.w
  obtain ⟨a1, a2, a3, a4, a5, a6⟩ := id g
  have key : ∀ (k x n : Nat), x + k = Ls → k < n → q_lp (fX11_freeBlock_b5 N) (fun _ _ _ => none) n (bno b) (nI x) um = some (if fnd (frB A W b) k x < Ls then nI (fnd (frB A W b) k x) else -1, um) := by
    intro k
    induction k with
    | zero =>
      intro x n h1 h2
      rw [lp_1 _ _ (by omega), fX11_freeBlock_b5, h5, if_pos (nI_le (by omega) (by omega)), if_neg (show ¬ fnd (frB A W b) 0 x < Ls by show ¬ x < Ls; omega)]
    | succ k ih =>
      intro x n h1 h2
      have h := h17 x
      have ihh := ih (x + 1) (n - 1) (by omega) (by omega)
      have hbd := g.band (show x < Ls by omega)
      rw [lp_1 _ _ (by omega), fX11_freeBlock_b5, h5, if_neg (nI_ge (by omega) (by omega)), qr_n (by omega) (by omega), r.2.2.2.2.2.2.1 x (by omega), fnd_1]
      unfold fX11_freeBlock_b34
      by_cases c : A 17 x = 0
      · rw [c, if_pos (show nI 0 = (0 : Int32) from rfl), h4, qd_n (by omega) (by omega), pk_div (by omega) (by omega) (by omega)]
        by_cases c2 : b = some (x / W)
        · have hs : ¬ frB A W b x = true := by unfold frB; simp [c2]
          rw [if_pos (by rw [c2]; rfl), if_neg hs, qn_s, nI_1]
          exact ihh
        · have hs : frB A W b x = true := by unfold frB; simp [c, c2]
          rw [if_neg (fun z => c2 (by
            cases b with
            | none => exact absurd z (m1_ne (x / W) (by omega))
            | some k => have := nI_inj (by omega) (by have := hb k rfl; omega) z; rw [this])), if_pos hs, if_pos (by omega)]
      · have c1 : A 17 x = 1 := by omega
        have hs : ¬ frB A W b x = true := by unfold frB; simp [c1]
        rw [c1, if_neg (show ¬ nI 1 = (0 : Int32) by decide), if_neg hs, qn_s, nI_1]
        exact ihh
  unfold fX11_freeBlock
  rw [h6, qn_s]
  exact key (Ls - fb) fb N (by omega) (by omega)
theorem m_zero {N f : Nat} (hf : f < 2048) : ∀ (k i n : Nat) (u : q_St), i + k = 64 → k < n → q_lp (fX11_takeBlock_b28 N) (fun _ _ _ => none) n (nI f) (nI (64 * f + i)) u = some (nI f, q_sa u 18 (fun j => if 64 * f + i ≤ j ∧ j < 64 * f + 64 then sB 0 else q_a u 18 j)) := by
  intro k
  induction k with
  | zero =>
    intro i n u h1 h2
    have : (fun j => if 64 * f + i ≤ j ∧ j < 64 * f + 64 then sB 0 else q_a u 18 j) = q_a u 18 := by
      funext j
      rw [if_neg (by omega)]
    rw [this, sa_self, lp_1 _ _ (by omega), fX11_takeBlock_b28, show (64 : Int32) * nI f = nI (64 * f) from pk_mul 64 _, show nI (64 * f) + (64 : Int32) = nI (64 * f + 64) from nI_add _ 64, if_pos (nI_le (by omega) (by omega))]
  | succ k ih =>
    intro i n u h1 h2
    rw [lp_1 _ _ (by omega), fX11_takeBlock_b28, show (64 : Int32) * nI f = nI (64 * f) from pk_mul 64 _, show nI (64 * f) + (64 : Int32) = nI (64 * f + 64) from nI_add _ 64, if_neg (nI_ge (by omega) (by omega)), qw_n (by omega) (by omega), cl_n (by omega), qn_s, nI_1, show 64 * f + i + 1 = 64 * f + (i + 1) by omega, ih (i + 1) (n - 1) _ (by omega) (by omega), sa_sa]
    congr 3
    funext j
    rw [qa_eq]
    by_cases c : j = 64 * f + i
    · rw [c, if_neg (by omega), if_pos (by omega), up_s]
      rfl
    · by_cases c2 : 64 * f + (i + 1) ≤ j ∧ j < 64 * f + 64
      · rw [if_pos c2, if_pos (by omega)]
      · rw [if_neg c2, if_neg (by omega), up_n c]
theorem m_takeBlock {B T S C W Ls fb f : Nat} {A : Nat → Nat → Nat} {nm : Nat → Int64} {dd : Nat → Bool} {N : Nat} {um : q_St} (g : Geo B T S C W Ls) (hN : 3000 ≤ N) (hfb : fb ≤ Ls) (r : RM Ls A nm (q_a um) (q_j um 0)) (s : MS Ls dd um) (gm : gM B T S C W Ls um) (h6 : fb = 144 + (Ls + 511) / 512) (h17 : ∀ x, A 17 x ≤ 1) (b : Option Nat) (hb : ∀ k, b = some k → k < B) (hf : fnd (frB A W b) (Ls - fb) fb = f) (hfL : f < Ls) : ∃ vm, fX11_takeBlock N (bno b) um = some (nI f, vm) ∧ RM Ls (tkA A f) nm (q_a vm) (q_j vm 0) ∧ MS Ls (setb (setb dd (80 + f / 512) true) f true) vm := by
  have hl := g.l
  have fr := m_freeBlock (N := N) g hN hfb r gm.2.2.2.2.2.1 gm.2.2.2.2.1 (by rw [gm.2.2.2.2.2.2.1, h6]) h17 b hb
  rw [hf, if_pos hfL] at fr
  obtain ⟨u1, hu1⟩ : ∃ q, q = q_sa um 17 (upd (q_a um 17) f 1) := ⟨_, rfl⟩
  have s1 : MS Ls dd u1 := ⟨by rw [hu1, qa_ne (by decide)]; exact s.1, by rw [hu1]; exact s.2⟩
  obtain ⟨u2, a1, a2⟩ := m_soil (N := N) hl.2 s1 (x := 80 + f / 512) (by omega)
  obtain ⟨u3, b1, b2⟩ := m_soil (N := N) hl.2 a2 (x := f) hfL
  have f1 := fr_X11_soil a1
  have f2 := fr_X11_soil b1
  have z := m_zero (N := N) (f := f) (by omega) 64 0 N u3 (by omega) (by omega)
  have e7 : q_i u1 7 = nI 80 := by rw [hu1]; exact gm.2.2.2.2.2.2.2.1
  refine ⟨q_sa u3 18 (fun j => if 64 * f + 0 ≤ j ∧ j < 64 * f + 64 then sB 0 else q_a u3 18 j), ?_, ?_, ?_⟩
  · unfold fX11_takeBlock
    rw [fr, qb_s, qw_n (by omega) (by omega), cl_n (by omega), nar_1, ← hu1]
    unfold fX11_soilMap
    rw [e7, show nI f / (512 : Int32) = nI (f / 512) from pk_div (d := 512) (by omega) (by decide) (by decide), nI_add, a1, qb_s, qb_s, b1, qb_s, show (64 : Int32) * nI f = nI (64 * f) from pk_mul 64 _, qn_s]
    exact z
  · obtain ⟨r1, r2, r3, r4, r6, r7, r8, r9⟩ := r
    have row : ∀ k, k ≠ 33 → q_a u3 k = q_a u1 k := fun k hk => (f2.2.1 k (by simp [hk])).trans (f1.2.1 k (by simp [hk]))
    have rowj : q_j u3 0 = q_j um 0 := ((f2.2.2 0 (by decide)).trans (f1.2.2 0 (by decide))).trans (by rw [hu1]; rfl)
    have s7r : ∀ k ∈ s7, k ≠ 17 ∧ k ≠ 18 ∧ k ≠ 33 := by decide
    have rr : ∀ k, k ≠ 17 → k ≠ 18 → k ≠ 33 → q_a (q_sa u3 18 (fun j => if 64 * f + 0 ≤ j ∧ j < 64 * f + 64 then sB 0 else q_a u3 18 j)) k = q_a um k := by
      intro k h1 h2 h3
      rw [qa_ne h2, row k h3, hu1, qa_ne h1]
    refine ⟨fun k hk j hj => ?_, ?_, ?_, ?_, ?_, ?_, fun x hx => ?_, fun j hj => ?_⟩
    · rw [rr k (s7r k hk).1 (s7r k hk).2.1 (s7r k hk).2.2, tkA_k (s7r k hk).1 (s7r k hk).2.1]; exact r1 k hk j hj
    · rw [rr 10 (by decide) (by decide) (by decide), tkA_k (by decide) (by decide)]; exact r2
    · rw [rr 9 (by decide) (by decide) (by decide), tkA_k (by decide) (by decide)]; exact r3
    · rw [rr 16 (by decide) (by decide) (by decide), tkA_k (by decide) (by decide)]; exact r4
    · rw [rr 13 (by decide) (by decide) (by decide), tkA_k (by decide) (by decide)]; exact r6
    · rw [rr 14 (by decide) (by decide) (by decide), tkA_k (by decide) (by decide)]
      show ∀ j, j < 3072 → _ ∧ (_ → q_j u3 0 j = _)
      rw [rowj]; exact r7
    · rw [qa_ne (by decide), row 17 (by decide), hu1, qa_eq, tkA_17]
      by_cases c : x = f
      · rw [c, up_s, if_pos rfl]; rfl
      · rw [up_n c, if_neg c]; exact r8 x hx
    · rw [qa_eq, tkA_18, row 18 (by decide), hu1, qa_ne (by decide)]
      by_cases c : j / 64 = f
      · rw [if_pos (by omega), if_pos c]
      · rw [if_neg (by omega), if_neg c]; exact r9 j hj
  · exact ⟨by rw [qa_ne (by decide)]; exact b2.1, b2.2⟩
/-- the SLOT itself -/
def setN (nm : Nat → Int64) (j : Nat) (v : Int64) : Nat → Int64 := fun i => if i = j then v else nm i
theorem m_soilSlot {Ls d f x : Nat} {A : Nat → Nat → Nat} {nm : Nat → Int64} {dd : Nat → Bool} {N : Nat} {um : q_St} (hl : Ls ≤ 2048) (r13 : q_a um 13 (12 * d + f / 4) = nI x) (s : MS Ls dd um) (hd : d < 64) (hf : f < 48) (hx : x < Ls) : ∃ vm, fX11_soilSlot N (nI (48 * d + f)) um = some ((), vm) ∧ MS Ls (setb dd x true) vm := by
  obtain ⟨vm, a1, a2⟩ := m_soil (N := N) hl s hx
  refine ⟨vm, ?_, a2⟩
  unfold fX11_soilSlot
  rw [show nI (48 * d + f) / (48 : Int32) = nI ((48 * d + f) / 48) from pk_div (d := 48) (by omega) (by decide) (by decide), qn_s, show nI ((48 * d + f) / 48) * (48 : Int32) = nI ((48 * d + f) / 48 * 48) from pk_mul _ 48, pk_sub (by omega), show (48 * d + f) - (48 * d + f) / 48 * 48 = f by omega, show nI f / (4 : Int32) = nI (f / 4) from pk_div (d := 4) (by omega) (by decide) (by decide), show (12 : Int32) * nI ((48 * d + f) / 48) = nI (12 * ((48 * d + f) / 48)) from pk_mul 12 _, show (48 * d + f) / 48 = d by omega, nI_add, qr_n (by omega) (by omega), r13, a1, qb_s]
theorem RM_14 {Ls j nd : Nat} {A : Nat → Nat → Nat} {nm : Nat → Int64} {um : q_St} {v : Int64} (r : RM Ls A nm (q_a um) (q_j um 0)) (h0 : nd ≠ 0) : RM Ls (setA A 14 j nd) (setN nm j v) (q_a (q_sj (q_sa um 14 (upd (q_a um 14) j (nI nd))) 0 (vp_updL (q_j um 0) j v))) (q_j (q_sj (q_sa um 14 (upd (q_a um 14) j (nI nd))) 0 (vp_updL (q_j um 0) j v)) 0) := by
  obtain ⟨r1, r2, r3, r4, r6, r7, r8, r9⟩ := r
  have s7r : ∀ k ∈ s7, k ≠ 14 := by decide
  refine ⟨fun k hk i hi => ?_, ?_, ?_, ?_, ?_, fun i hi => ?_, ?_, ?_⟩
  · rw [qa_sj, qa_ne (s7r k hk), setA_k (s7r k hk)]; exact r1 k hk i hi
  · rw [qa_sj, qa_ne (by decide), setA_k (by decide)]; exact r2
  · rw [qa_sj, qa_ne (by decide), setA_k (by decide)]; exact r3
  · rw [qa_sj, qa_ne (by decide), setA_k (by decide)]; exact r4
  · rw [qa_sj, qa_ne (by decide), setA_k (by decide)]; exact r6
  · rw [qa_sj, qa_eq, qj_eq]
    by_cases c : i = j
    · rw [c, up_s, setA_s, upL_s]
      refine ⟨by unfold i0; rw [if_neg h0], fun _ => ?_⟩
      unfold setN
      rw [if_pos rfl]
    · rw [up_n c, setA_n c, upL_n c]
      refine ⟨(r7 i hi).1, fun z => ?_⟩
      unfold setN
      rw [if_neg c]
      exact (r7 i hi).2 z
  · rw [qa_sj, qa_ne (by decide), setA_k (by decide)]; exact r8
  · rw [qa_sj, qa_ne (by decide), setA_k (by decide)]; exact r9
theorem m_b89 {Ls d f x nd : Nat} {A : Nat → Nat → Nat} {nm : Nat → Int64} {dd : Nat → Bool} {N : Nat} {um : q_St} {v : Int64} (hN : 300 ≤ N) (hl : Ls ≤ 2048) (r : RM Ls A nm (q_a um) (q_j um 0)) (s : MS Ls dd um) (hd : d < 64) (h8 : A 8 d ≤ 12) (h14 : ∀ j, j < 3072 → A 14 j ≠ 0 → A 14 j < 64) (hf : fnd (sF A d) (4 * A 8 d) 0 = f) (hfm : f < 4 * A 8 d) (hx : A 13 (12 * d + f / 4) = x) (hxL : x < Ls) (h0 : nd ≠ 0) : ∃ vm, fX11_enter_b89 N (nI d) v (nI nd) um = some ((), vm) ∧ RM Ls (setA A 14 (48 * d + f) nd) (setN nm (48 * d + f) v) (q_a vm) (q_j vm 0) ∧ MS Ls (setb dd x true) vm := by
  have fs := m_freeSlot (N := N) r hN hd h8 h14
  rw [hf] at fs
  unfold slM at fs
  rw [if_pos hfm] at fs
  obtain ⟨u2, hu2⟩ : ∃ q, q = (q_sj (q_sa um 14 (upd (q_a um 14) (48 * d + f) (nI nd))) 0 (vp_updL (q_j um 0) (48 * d + f) v)) := ⟨_, rfl⟩
  have rm2 := RM_14 (j := 48 * d + f) (v := v) r h0
  rw [← hu2] at rm2
  have s2 : MS Ls dd u2 := ⟨by rw [hu2, qa_sj, qa_ne (by decide)]; exact s.1, by rw [hu2]; exact s.2⟩
  obtain ⟨vm, a1, a2⟩ := m_soilSlot (N := N) (A := A) (nm := nm) (d := d) (f := f) (x := x) hl (by rw [hu2, qa_sj, qa_ne (by decide), r.2.2.2.2.1 _ (by omega), hx]) s2 hd (by omega) hxL
  have fm := fr_X11_soilSlot a1
  refine ⟨vm, ?_, RM_fr rm2 (fun k q1 q2 => fm.2.1 k (by simp only [List.mem_cons, List.not_mem_nil, or_false]; omega)) (fm.2.2 0 (by decide)), a2⟩
  unfold fX11_enter_b89
  rw [fs, qb_s, qw_n (by omega) (by omega), qw_n (by omega) (by omega), cl_n (by omega)]
  rw [show q_j (q_sa um 14 (upd (q_a um 14) (48 * d + f) (nI nd))) 0 = q_j um 0 from rfl, ← hu2, a1, qb_s]
