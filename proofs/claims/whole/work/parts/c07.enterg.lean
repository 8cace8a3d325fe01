/-! ===== the reference: a DIRECTORY grows; a NODE is born ===== -/
/-- the four SLOTS of a new BLOCK are emptied -/
theorem m_clr4 {d m : Nat} {N : Nat} {v : Int64} {x4 : Int32} (hd : d < 64) (h12 : m < 12) : ∀ (k s n : Nat) (um : q_St), s + k = 4 → k < n → q_a um 8 d = nI (m + 1) → q_lp (fX11_enter_b55 N) (fun _ _ _ _ _ => none) n (nI d) v x4 (nI (48 * d + (4 * m + s))) um = (fun u => q_bnd (fX11_soilNode N (nI d) u) (fun _ u27 => (fX11_enter_b89 N (nI d) v x4 u27))) (q_sa um 14 (fun j => if 48 * d + (4 * m + s) ≤ j ∧ j < 48 * d + (4 * m + 4) then -1 else q_a um 14 j)) := by
  intro k
  induction k with
  | zero =>
    intro s n um h1 h2 h8
    have : (fun j => if 48 * d + (4 * m + s) ≤ j ∧ j < 48 * d + (4 * m + 4) then (-1 : Int32) else q_a um 14 j) = q_a um 14 := by
      funext j
      rw [if_neg (by omega)]
    rw [this, sa_self, lp_1 _ _ (by omega), fX11_enter_b55]
    unfold fX11_slots
    rw [qr_n hd (by decide), h8, qb_s, show (4 : Int32) * nI (m + 1) = nI (4 * (m + 1)) from pk_mul 4 _, show (48 : Int32) * nI d = nI (48 * d) from pk_mul 48 _, nI_add, if_pos (nI_le (by omega) (by omega))]
  | succ k ih =>
    intro s n um h1 h2 h8
    rw [lp_1 _ _ (by omega), fX11_enter_b55]
    unfold fX11_slots
    rw [qr_n hd (by decide), h8, qb_s, show (4 : Int32) * nI (m + 1) = nI (4 * (m + 1)) from pk_mul 4 _, show (48 : Int32) * nI d = nI (48 * d) from pk_mul 48 _, nI_add, if_neg (nI_ge (by omega) (by omega)), qw_n (by omega) (by omega), cl_n (by omega), qn_s, nI_1, show 48 * d + (4 * m + s) + 1 = 48 * d + (4 * m + (s + 1)) by omega, ih (s + 1) (n - 1) (q_sa um 14 (upd (q_a um 14) (48 * d + (4 * m + s)) (-1))) (by omega) (by omega) h8, sa_sa]
    congr 2
    funext j
    rw [qa_eq]
    by_cases c : j = 48 * d + (4 * m + s)
    · rw [c, if_neg (by omega), if_pos (by omega), up_s]
    · by_cases c2 : 48 * d + (4 * m + (s + 1)) ≤ j ∧ j < 48 * d + (4 * m + 4)
      · rw [if_pos c2, if_pos (by omega)]
      · rw [if_neg c2, if_neg (by omega), up_n c]
theorem m_grow {B T S C W Ls na d y : Nat} {A : Nat → Nat → Nat} {nm : Nat → Int64} {dd : Nat → Bool} {N : Nat} {um : q_St} {v : Int64} {x4 : Int32} (g : Geo B T S C W Ls) (hna : na = 80 + (Ls + 511) / 512) (hN : 3000 ≤ N) (r : RM Ls A nm (q_a um) (q_j um 0)) (s : MS Ls dd um) (gm : gM B T S C W Ls um) (tw : TV B W Ls (na + 64) A nm) (hd : d < 64) (hk : A 5 d = 2) (h8 : A 8 d < 12) (hno : fnd (sF A d) (4 * A 8 d) 0 = 4 * A 8 d) (b : Option Nat) (hb : ∀ k, b = some k → k < B) (hy : fnd (frB A W b) (Ls - (na + 64)) (na + 64) = y) (hyL : y < Ls) :
    ∃ vm, fX11_enter N (nI d) v x4 (bno b) um = fX11_enter_b89 N (nI d) v x4 vm ∧ RM Ls (gA A d y) nm (q_a vm) (q_j vm 0) ∧ MS Ls (setb (setb (setb dd (80 + y / 512) true) y true) (na + d) true) vm ∧ Fr [25] [8, 13, 14, 17, 18, 33] [] um vm := by
  have hl := g.l
  have h14 : ∀ j, j < 3072 → A 14 j ≠ 0 → A 14 j < 64 := fun j hj h => (tw.2.2.2 j hj h).2.2.1
  have h17 := tw.1.2.2.2.2.2.2.2
  have fs := m_freeSlot (N := N) r (by omega) hd (by omega) h14
  rw [hno] at fs
  unfold slM at fs
  rw [if_neg (by omega)] at fs
  obtain ⟨u1, a1, a2, a3⟩ := m_takeBlock (N := N) (fb := na + 64) g hN (by omega) r s gm (by omega) h17 b hb hy hyL
  have f1 := fr_X11_takeBlock a1
  obtain ⟨u2, hu2⟩ : ∃ q, q = q_sa u1 13 (upd (q_a u1 13) (12 * d + A 8 d) (nI y)) := ⟨_, rfl⟩
  obtain ⟨u3, hu3⟩ : ∃ q, q = q_sa u2 8 (upd (q_a u2 8) d (nI (A 8 d + 1))) := ⟨_, rfl⟩
  obtain ⟨u4, hu4⟩ : ∃ q, q = (q_sa u3 14 (fun j => if 48 * d + (4 * A 8 d + 0) ≤ j ∧ j < 48 * d + (4 * A 8 d + 4) then -1 else q_a u3 14 j)) := ⟨_, rfl⟩
  have r8u1 : q_a u1 8 d = nI (A 8 d) := by rw [a2.r7 (by decide) hd, tkA_k (by decide) (by decide)]
  have r8u2 : q_a u2 8 d = nI (A 8 d) := by rw [hu2, qa_ne (by decide)]; exact r8u1
  have r8u3 : q_a u3 8 d = nI (A 8 d + 1) := by rw [hu3, qa_eq, up_s]
  have c4 := m_clr4 (N := N) (v := v) (x4 := x4) hd h8 4 0 N u3 (by omega) (by omega) r8u3
  rw [← hu4] at c4
  have s4 : MS Ls (setb (setb dd (80 + y / 512) true) y true) u4 := ⟨by rw [hu4, qa_ne (by decide), hu3, qa_ne (by decide), hu2, qa_ne (by decide)]; exact a3.1, by rw [hu4, hu3, hu2]; exact a3.2⟩
  have e8 : q_i u4 8 = nI (80 + (Ls + 511) / 512) := by
    rw [hu4, hu3, hu2]
    show q_i u1 8 = _
    rw [f1.1 8 (by decide)]
    exact gm.2.2.2.2.2.2.2.2
  obtain ⟨u5, b1, b2⟩ := m_soilNode (N := N) (n := d) g hna e8 s4 hd
  have f5 := fr_X11_soilNode b1
  refine ⟨u5, ?_, ?_, b2, ?_⟩
  · unfold fX11_enter
    rw [fs, qb_s, if_pos rfl, qr_n hd (by decide), r.r7 (by decide) hd, a1, qb_s, show (12 : Int32) * nI d = nI (12 * d) from pk_mul 12 _, nI_add, qw_n (by omega) (by omega), cl_n (by omega), ← hu2, qr_n hd (by decide), r8u2, nI_1, qw_n hd (by decide), cl_n (by omega), ← hu3]
    unfold fX11_slots
    rw [qr_n hd (by decide), r8u3, qb_s, show (4 : Int32) * nI (A 8 d + 1) = nI (4 * (A 8 d + 1)) from pk_mul 4 _, show (48 : Int32) * nI d = nI (48 * d) from pk_mul 48 _, nI_add, show nI (48 * d + 4 * (A 8 d + 1)) - (4 : Int32) = nI (48 * d + 4 * (A 8 d + 1) - 4) from pk_sub (b := 4) (by omega), qn_s, show 48 * d + 4 * (A 8 d + 1) - 4 = 48 * d + (4 * A 8 d + 0) by omega, c4]
    dsimp only
    rw [b1, qb_s]
  · have key : RM Ls (gA A d y) nm (q_a u4) (q_j u4 0) := by
      obtain ⟨r1, r2, r3, r4, r6, r7, r8, r9⟩ := a2
      have ta : ∀ k, k ≠ 8 → k ≠ 13 → gA A d y k = tkA A y k := fun k h1 h2 => by unfold gA; rw [setA_k h1, setA_k h2]
      have rr : ∀ k, k ≠ 8 → k ≠ 13 → k ≠ 14 → q_a u4 k = q_a u1 k := fun k h1 h2 h3 => by rw [hu4, qa_ne h3, hu3, qa_ne h1, hu2, qa_ne h2]
      have s7r : ∀ k ∈ s7, k ≠ 13 ∧ k ≠ 14 := by decide
      refine ⟨fun k hk2 j hj => ?_, ?_, ?_, ?_, fun j hj => ?_, fun j hj => ?_, ?_, ?_⟩
      · by_cases c : k = 8
        · rw [c, hu4, qa_ne (by decide), hu3, qa_eq, gA_8]
          by_cases c2 : j = d
          · rw [c2, up_s, if_pos rfl]
          · have := r1 8 (by decide) j hj
            rw [tkA_k (by decide) (by decide)] at this
            rw [up_n c2, if_neg c2, hu2, qa_ne (by decide)]
            exact this
        · rw [rr k c (s7r k hk2).1 (s7r k hk2).2, ta k c (s7r k hk2).1]
          exact r1 k hk2 j hj
      · rw [rr 10 (by decide) (by decide) (by decide), ta 10 (by decide) (by decide)]; exact r2
      · rw [rr 9 (by decide) (by decide) (by decide), ta 9 (by decide) (by decide)]; exact r3
      · rw [rr 16 (by decide) (by decide) (by decide), ta 16 (by decide) (by decide)]; exact r4
      · rw [hu4, qa_ne (by decide), hu3, qa_ne (by decide), hu2, qa_eq, gA_13]
        by_cases c2 : j = 12 * d + A 8 d
        · rw [c2, up_s, if_pos rfl]
        · have := r6 j hj
          rw [tkA_k (by decide) (by decide)] at this
          rw [up_n c2, if_neg c2]
          exact this
      · have q := r7 j hj
        rw [ta 14 (by decide) (by decide)]
        have eu : q_j u4 0 = q_j u1 0 := by rw [hu4, hu3, hu2]; rfl
        rw [eu]
        refine ⟨?_, q.2⟩
        rw [hu4, qa_eq, hu3, qa_ne (by decide), hu2, qa_ne (by decide)]
        by_cases c2 : 48 * d + (4 * A 8 d + 0) ≤ j ∧ j < 48 * d + (4 * A 8 d + 4)
        · have z : A 14 j = 0 := by
            by_cases z : A 14 j = 0
            · exact z
            · exfalso
              have := (tw.2.2.2 j hj z).2.1
              rw [show j / 48 = d by omega] at this
              omega
          rw [if_pos c2, tkA_k (by decide) (by decide), z]
          rfl
        · rw [if_neg c2]
          exact q.1
      · rw [rr 17 (by decide) (by decide) (by decide), ta 17 (by decide) (by decide)]; exact r8
      · rw [rr 18 (by decide) (by decide) (by decide), ta 18 (by decide) (by decide)]; exact r9
    exact RM_fr key (fun k q1 q2 => f5.2.1 k (by simp only [List.mem_cons, List.not_mem_nil, or_false]; omega)) (f5.2.2 0 (by decide))
  · have q1 : Fr [25] [8, 13, 14, 17, 18, 33] [] um u1 := f1.mono (by decide) (by decide) (by decide)
    have q2 : Fr [25] [8, 13, 14, 17, 18, 33] [] u1 u4 := by
      rw [hu4, hu3, hu2]
      exact ((fr_sa1 _ (by decide)).trans (fr_sa1 _ (by decide))).trans (fr_sa1 _ (by decide))
    exact (q1.trans q2).trans (f5.mono (by decide) (by decide) (by decide))
theorem bnA_eq {A : Nat → Nat → Nat} {n k sz par own bits : Nat} : setA (setA (setA (setA (setA (setA (setA A 5 n k) 6 n sz) 7 n par) 8 n 0) 15 n 1) 11 n own) 12 n bits = bnA A n k sz par own bits := by
  funext r j
  unfold bnA
  by_cases c : j = n
  · subst c
    rw [if_pos rfl]
    by_cases c12 : r = 12
    · subst c12; rw [setA_s]; rfl
    · rw [setA_k c12]
      by_cases c11 : r = 11
      · subst c11; rw [setA_s]; rfl
      · rw [setA_k c11]
        by_cases c15 : r = 15
        · subst c15; rw [setA_s]; rfl
        · rw [setA_k c15]
          by_cases c8 : r = 8
          · subst c8; rw [setA_s]; rfl
          · rw [setA_k c8]
            by_cases c7 : r = 7
            · subst c7; rw [setA_s]; rfl
            · rw [setA_k c7]
              by_cases c6 : r = 6
              · subst c6; rw [setA_s]; rfl
              · rw [setA_k c6]
                by_cases c5 : r = 5
                · subst c5; rw [setA_s]; rfl
                · rw [setA_k c5, if_neg c5, if_neg c6, if_neg c7, if_neg c8, if_neg c15, if_neg c11, if_neg c12]
  · rw [if_neg c]
    have h : ∀ (X : Nat → Nat → Nat) (q v : Nat), setA X q n v r j = X r j := fun X q v => by unfold setA; rw [if_neg (fun z => c z.2)]
    rw [h, h, h, h, h, h, h]
theorem m_born {B T S C W Ls na n k d w : Nat} {A : Nat → Nat → Nat} {nm : Nat → Int64} {dd : Nat → Bool} {N : Nat} {um : q_St} (g : Geo B T S C W Ls) (hna : na = 80 + (Ls + 511) / 512) (r : RM Ls A nm (q_a um) (q_j um 0)) (s : MS Ls dd um) (h8 : q_i um 8 = nI (80 + (Ls + 511) / 512)) (hn : n < 64) (hk : k ≤ 4) (h28 : q_i um 28 = nI w) : ∃ vm, fX11_born N (nI n) (nI k) (nI d) um = some (nI n, vm) ∧ RM Ls (bnA A n k 0 (if k = 2 then d else 0) w (if k = 2 then 61 else 52)) nm (q_a vm) (q_j vm 0) ∧ MS Ls (setb dd (na + n) true) vm := by
  obtain ⟨u1, hu1⟩ : ∃ q, q = q_sa um 5 (upd (q_a um 5) n (nI k)) := ⟨_, rfl⟩
  obtain ⟨u2, hu2⟩ : ∃ q, q = q_sa u1 6 (upd (q_a u1 6) n (nI 0)) := ⟨_, rfl⟩
  have p1 := RM_7 (n := n) (k0 := 5) (v := k) r (by decide)
  rw [← hu1] at p1
  have p2 := RM_7 (n := n) (k0 := 6) (v := 0) p1 (by decide)
  rw [← hu2] at p2
  have tailc : ∀ par : Nat, fX11_born_b29 N (nI n) (nI k) (nI par) (nI n) u2 = (fun u6 => if nI k = 2 then fX11_born_b71 N (nI n) 61 (nI n) u6 else fX11_born_b71 N (nI n) 52 (nI n) u6) (q_sa (q_sa (q_sa (q_sa u2 7 (upd (q_a u2 7) n (nI par))) 8 (upd (q_a u2 8) n (nI 0))) 15 (upd (q_a u2 15) n (nI 1))) 11 (upd (q_a u2 11) n (nI w))) := by
    intro par
    unfold fX11_born_b29
    rw [qw_n hn (by decide), qw_n hn (by decide), qw_n hn (by decide), qw_n hn (by decide), cl_n (by omega)]
    have e28 : q_i (q_sa (q_sa (q_sa u2 7 (upd (q_a u2 7) n (nI par))) 8 (upd (q_a (q_sa u2 7 (upd (q_a u2 7) n (nI par))) 8) n 0)) 15 (upd (q_a (q_sa (q_sa u2 7 (upd (q_a u2 7) n (nI par))) 8 (upd (q_a (q_sa u2 7 (upd (q_a u2 7) n (nI par))) 8) n 0)) 15) n 1)) 28 = nI w := by
      rw [hu2, hu1]; exact h28
    rw [e28]
    rfl
  have fin : ∀ par bits : Nat, ∃ vm, fX11_born_b71 N (nI n) (nI bits) (nI n) (q_sa (q_sa (q_sa (q_sa u2 7 (upd (q_a u2 7) n (nI par))) 8 (upd (q_a u2 8) n (nI 0))) 15 (upd (q_a u2 15) n (nI 1))) 11 (upd (q_a u2 11) n (nI w))) = some (nI n, vm) ∧ RM Ls (bnA A n k 0 par w bits) nm (q_a vm) (q_j vm 0) ∧ MS Ls (setb dd (na + n) true) vm := by
    intro par bits
    have p3 := RM_7 (n := n) (k0 := 7) (v := par) p2 (by decide)
    have p4 := RM_7 (n := n) (k0 := 8) (v := 0) p3 (by decide)
    have p5 := RM_7 (n := n) (k0 := 15) (v := 1) p4 (by decide)
    have p6 := RM_7 (n := n) (k0 := 11) (v := w) p5 (by decide)
    have p7 := RM_7 (n := n) (k0 := 12) (v := bits) p6 (by decide)
    rw [bnA_eq] at p7
    obtain ⟨u6, hu6⟩ : ∃ q, q = (q_sa (q_sa (q_sa (q_sa u2 7 (upd (q_a u2 7) n (nI par))) 8 (upd (q_a u2 8) n (nI 0))) 15 (upd (q_a u2 15) n (nI 1))) 11 (upd (q_a u2 11) n (nI w))) := ⟨_, rfl⟩
    have e6 : (q_sa (q_sa (q_sa (q_sa u2 7 (upd (q_a u2 7) n (nI par))) 8 (upd (q_a (q_sa u2 7 (upd (q_a u2 7) n (nI par))) 8) n (nI 0))) 15 (upd (q_a (q_sa (q_sa u2 7 (upd (q_a u2 7) n (nI par))) 8 (upd (q_a (q_sa u2 7 (upd (q_a u2 7) n (nI par))) 8) n (nI 0))) 15) n (nI 1))) 11 (upd (q_a (q_sa (q_sa (q_sa u2 7 (upd (q_a u2 7) n (nI par))) 8 (upd (q_a (q_sa u2 7 (upd (q_a u2 7) n (nI par))) 8) n (nI 0))) 15 (upd (q_a (q_sa (q_sa u2 7 (upd (q_a u2 7) n (nI par))) 8 (upd (q_a (q_sa u2 7 (upd (q_a u2 7) n (nI par))) 8) n (nI 0))) 15) n (nI 1))) 11) n (nI w))) = u6 := by rw [hu6]; rfl
    rw [e6] at p7
    rw [← hu6]
    have s6 : MS Ls dd (q_sa u6 12 (upd (q_a u6 12) n (nI bits))) := ⟨by rw [qa_ne (by decide), hu6, hu2, hu1]; exact s.1, by rw [hu6, hu2, hu1]; exact s.2⟩
    have e8 : q_i (q_sa u6 12 (upd (q_a u6 12) n (nI bits))) 8 = nI (80 + (Ls + 511) / 512) := by rw [hu6, hu2, hu1]; exact h8
    obtain ⟨vm, b1, b2⟩ := m_soilNode (N := N) (n := n) g hna e8 s6 hn
    have fm := fr_X11_soilNode b1
    refine ⟨vm, ?_, RM_fr p7 (fun q q1 q2 => fm.2.1 q (by simp only [List.mem_cons, List.not_mem_nil, or_false]; omega)) (fm.2.2 0 (by decide)), b2⟩
    unfold fX11_born_b71
    rw [qw_n hn (by decide), cl_n (by omega), b1, qb_s]
  unfold fX11_born
  rw [qw_n hn (by decide), qw_n hn (by decide), cl_n (by omega), ← hu1, show (0 : Int32) = nI 0 from rfl, ← hu2]
  by_cases c : k = 2
  · have e2 : nI k = 2 := by rw [c]; rfl
    rw [if_pos e2, tailc d]
    dsimp only
    rw [if_pos e2, if_pos c, if_pos c]
    exact fin d 61
  · have e2 : ¬ nI k = 2 := nI_k (b := 2) hk (by decide) c
    rw [if_neg e2, tailc 0]
    dsimp only
    rw [if_neg e2, if_neg c, if_neg c]
    exact fin 0 52
theorem m_freeNode {Ls : Nat} {A : Nat → Nat → Nat} {nm : Nat → Int64} {N : Nat} {um : q_St} (r : RM Ls A nm (q_a um) (q_j um 0)) (hN : 300 ≤ N) (h5 : ∀ n, n < 64 → A 5 n ≤ 4) : fX11_freeNode N um = some (slX 64 (fnd (fun n => decide (A 5 n = 0)) 64 0), um) := by
  have key : ∀ (k n m : Nat), n + k = 64 → k < m → q_lp (fX11_freeNode_b2 N) (fun _ _ => none) m (nI n) um = some (slX 64 (fnd (fun n => decide (A 5 n = 0)) k n), um) := by
    intro k
    induction k with
    | zero =>
      intro n m h1 h2
      rw [lp_1 _ _ (by omega), fX11_freeNode_b2, if_pos (show (64 : Int32) ≤ nI n from nI_le (a := 64) (by omega) (by omega))]
      unfold slX
      rw [if_neg (show ¬ fnd (fun n => decide (A 5 n = 0)) 0 n < 64 by show ¬ n < 64; omega)]
    | succ k ih =>
      intro n m h1 h2
      have h := h5 n (by omega)
      rw [lp_1 _ _ (by omega), fX11_freeNode_b2, if_neg (show ¬ (64 : Int32) ≤ nI n from nI_ge (a := n) (b := 64) (by omega) (by omega)), qr_n (by omega) (by omega), r.r7 (by decide) (by omega), fnd_1]
      by_cases c : A 5 n = 0
      · rw [c, if_pos (show nI 0 = (0 : Int32) from rfl), if_pos (by simp [c])]
        unfold slX
        rw [if_pos (by omega)]
      · rw [if_neg (nI_ne0 (by omega) (by omega)), if_neg (by simp [c]), qn_s, nI_1]
        exact ih (n + 1) (m - 1) (by omega) (by omega)
  unfold fX11_freeNode
  exact key 64 0 N (by omega) (by omega)
theorem x_lowestFree {B T S C W Ls na hb : Nat} {um : q_St} {D K : Nat → Nat → Int64} {dd : Nat → Bool} {A : Nat → Nat → Nat} {nm : Nat → Int64} {L : Nat → Nat} {N : Nat} {ux : q_St} (x : Xr B T S C W Ls na hb um D K dd A nm L ux) (hN : 300 ≤ N) : fX4_lowestFree L N ux = some (slX 64 (fnd (fun n => decide (A 5 n = 0)) 64 0), ux) := by
  have key : ∀ (k n m : Nat), n + k = 64 → k < m → q_lp (fX4_lowestFree_b2 L N) (fun _ _ => none) m (nI n) ux = some (slX 64 (fnd (fun n => decide (A 5 n = 0)) k n), ux) := by
    intro k
    induction k with
    | zero =>
      intro n m h1 h2
      rw [lp_1 _ _ (by omega), fX4_lowestFree_b2, if_pos (show (64 : Int32) ≤ nI n from nI_le (a := 64) (by omega) (by omega))]
      unfold slX
      rw [if_neg (show ¬ fnd (fun n => decide (A 5 n = 0)) 0 n < 64 by show ¬ n < 64; omega)]
    | succ k ih =>
      intro n m h1 h2
      have h := x.k4 (show n < 64 by omega)
      rw [lp_1 _ _ (by omega), fX4_lowestFree_b2, if_neg (show ¬ (64 : Int32) ≤ nI n from nI_ge (a := n) (b := 64) (by omega) (by omega)), x_kindOf x (by omega), qb_s, fnd_1]
      by_cases c : A 5 n = 0
      · rw [c, if_pos (show nI 0 = (0 : Int32) from rfl), if_pos (by simp [c])]
        unfold slX
        rw [if_pos (by omega)]
      · rw [if_neg (nI_ne0 (by omega) (by omega)), if_neg (by simp [c]), qn_s, nI_1]
        exact ih (n + 1) (m - 1) (by omega) (by omega)
  unfold fX4_lowestFree
  exact key 64 0 N (by omega) (by omega)
