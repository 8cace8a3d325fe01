/-! ===== STREAMING: the page, the loops of both ===== -/
/-- a word out of eight bytes; where the tape is read behind so many bytes -/
def pgw (f : Nat → Int32) : Nat → Int64
  | 0 => 0
  | k + 1 => pgw f k ||| q_lshl (Int32.toInt64 (f k)) (nI (8 * k))
def nxt (n : Nat) : Nat → Nat
  | 0 => 0
  | m + 1 => if n ≤ nxt n m + 1 then 0 else nxt n m + 1
theorem nxt_le (n : Nat) : ∀ m, nxt n m ≤ n
  | 0 => Nat.zero_le _
  | m + 1 => by
    have := nxt_le n m
    simp only [nxt]
    split <;> omega
def gf31 (BO : Int32 → q_St → Option (Int32 × q_St)) (ln : Nat) (L : Nat → Nat) (ih18 : Int32 → Int32 → Int32 → q_St → Option (Int32 × q_St)) (ih31 : Int32 → Int32 → Int32 → Int64 → Int32 → q_St → Option (Int32 × q_St)) : Int32 → Int32 → Int32 → Int64 → Int32 → q_St → Option (Int32 × q_St) := fun x2 x3 x4 x5 x7 u => (if 8 ≤ x7 then (q_wa (L 6) x4 (q_sj u 1 (vp_updL (q_j u 1) (Int32.toNatClampNeg x4) x5)) (fun u5 => (q_nm (x4 + 1) (fun v6 => (ih18 x2 x3 v6 u5))))) else (q_bnd (BO x2 u) (fun r7 u8 => (q_nm (x5 ||| (q_lshl (Int32.toInt64 r7) (8 * x7))) (fun v10 => (if (q_i u8 ln) ≤ (x2 + 1) then (q_nm (x7 + 1) (fun v11 => (ih31 0 x3 x4 v10 v11 u8))) else (q_nm (x7 + 1) (fun v11 => (ih31 (x2 + 1) x3 x4 v10 v11 u8)))))))))
def gf18 (BO : Int32 → q_St → Option (Int32 × q_St)) (ln : Nat) (L : Nat → Nat) (N : Nat) (ih4 : Int32 → Int32 → q_St → Option (Int32 × q_St)) (ih18 : Int32 → Int32 → Int32 → q_St → Option (Int32 × q_St)) : Int32 → Int32 → Int32 → q_St → Option (Int32 × q_St) := fun x2 x3 x4 u => (if 8 ≤ x4 then (q_bnd (fX2_writeShingle_18 L N (((q_i u 20) * (q_i u 4)) + x3) 0 u) (fun r1 u2 => (if r1 = 0 then (some (0, u2)) else (q_nm (x3 + 1) (fun v4 => (ih4 x2 v4 u2)))))) else (q_lp (gf31 BO ln L ih18) (fun _ _ _ _ _ _ => none) N x2 x3 x4 0 0 u))
def gf4 (BO : Int32 → q_St → Option (Int32 × q_St)) (ln : Nat) (L : Nat → Nat) (N : Nat) (ih4 : Int32 → Int32 → q_St → Option (Int32 × q_St)) : Int32 → Int32 → q_St → Option (Int32 × q_St) := fun x2 x3 u => (if (q_i u 4) ≤ x3 then (some (1, u)) else (q_lp (gf18 BO ln L N ih4) (fun _ _ _ _ => none) N x2 x3 0 u))
theorem gf_8 (L : Nat → Nat) (N : Nat) (u : q_St) : fX8_fill_8 L N u = q_lp (gf4 (fX7_byteOf_8 L N) 32 L N) (fun _ _ _ => none) N 0 0 u := rfl
theorem gf_9 (L : Nat → Nat) (N : Nat) (u : q_St) : fX8_fill_9 L N u = q_lp (gf4 (fX7_byteOf_9 L N) 33 L N) (fun _ _ _ => none) N 0 0 u := rfl
theorem sj_sj (u : q_St) (k : Nat) (f g : Nat → Int64) : q_sj (q_sj u k f) k g = q_sj u k g := by
  unfold q_sj
  refine Prod.ext rfl (Prod.ext rfl (funext fun j => ?_))
  show (if j = k then g else if j = k then f else u.2.2 j) = if j = k then g else u.2.2 j
  split <;> rfl
/-- the tape of the class in a state: its length, its bytes -/
def tpQ (BO : Int32 → q_St → Option (Int32 × q_St)) (ln n : Nat) (tb : Nat → Int32) (u : q_St) : Prop := q_i u ln = nI n ∧ ∀ m, BO (nI (nxt n m)) u = some (tb (nxt n m), u)
theorem g31 {BO : Int32 → q_St → Option (Int32 × q_St)} {ln n : Nat} {tb : Nat → Int32} {L : Nat → Nat} {ih18 : Int32 → Int32 → Int32 → q_St → Option (Int32 × q_St)} {x3 : Int32} {w m : Nat} {u : q_St} (hn : n < 2 ^ 30) (h6 : L 6 = 8) (hw : w < 8) (hQ : tpQ BO ln n tb u) : ∀ (k j n' : Nat), j + k = 8 → k < n' →
    q_lp (gf31 BO ln L ih18) (fun _ _ _ _ _ _ => none) n' (nI (nxt n (m + j))) x3 (nI w) (pgw (fun k => tb (nxt n (m + k))) j) (nI j) u = ih18 (nI (nxt n (m + 8))) x3 (nI (w + 1)) (q_sj u 1 (vp_updL (q_j u 1) w (pgw (fun k => tb (nxt n (m + k))) 8))) := by
  intro k
  induction k with
  | zero =>
    intro j n' h1 h2
    have : j = 8 := by omega
    subst this
    rw [lp_1 _ _ (by omega), gf31, if_pos (by decide), h6, qw_n hw (by omega), cl_n (by omega), qn_s, nI_1]
  | succ k ih =>
    intro j n' h1 h2
    have hle := nxt_le n (m + j)
    rw [lp_1 _ _ (by omega), gf31, if_neg (show ¬ (8 : Int32) ≤ nI j from nI_ge (a := j) (b := 8) (by omega) (by omega)), hQ.2, qb_s, qn_s, hQ.1, show (8 : Int32) * nI j = nI (8 * j) from pk_mul 8 _, nI_1, qn_s, qn_s, nI_1]
    have r := ih (j + 1) (n' - 1) (by omega) (by omega)
    have e1 : nxt n (m + (j + 1)) = if n ≤ nxt n (m + j) + 1 then 0 else nxt n (m + j) + 1 := rfl
    rw [e1] at r
    by_cases c : n ≤ nxt n (m + j) + 1
    · rw [if_pos (nI_le c (by omega))]
      rw [if_pos c] at r
      exact r
    · rw [if_neg (nI_ge (by omega) (by omega))]
      rw [if_neg c] at r
      exact r
/-- what a sector of the STREAMED band gets -/
def ctw (n : Nat) (tb : Nat → Int32) (i w : Nat) : Int64 := pgw (fun k => tb (nxt n (64 * i + 8 * w + k))) 8
theorem upL_s {f : Nat → Int64} {k : Nat} {x : Int64} : vp_updL f k x k = x := by simp [vp_updL]
theorem upL_n {f : Nat → Int64} {k j : Nat} {x : Int64} (h : j ≠ k) : vp_updL f k x j = f j := by simp [vp_updL, h]
theorem g18 {BO : Int32 → q_St → Option (Int32 × q_St)} {ln n : Nat} {tb : Nat → Int32} {L : Nat → Nat} {N : Nat} {ih4 : Int32 → Int32 → q_St → Option (Int32 × q_St)} {i : Nat} (hn : n < 2 ^ 30) (hN : 300 ≤ N) (h6 : L 6 = 8) (hP : ∀ u pg, tpQ BO ln n tb u → tpQ BO ln n tb (q_sj u 1 pg)) : ∀ (k w n' : Nat) (u : q_St), w + k = 8 → k < n' → tpQ BO ln n tb u →
    ∃ pg, (∀ w', w' < w → pg w' = q_j u 1 w') ∧ (∀ w', w ≤ w' → w' < 8 → pg w' = ctw n tb i w') ∧ q_lp (gf18 BO ln L N ih4) (fun _ _ _ _ => none) n' (nI (nxt n (64 * i + 8 * w))) (nI i) (nI w) u = q_bnd (fX2_writeShingle_18 L N (q_i u 20 * q_i u 4 + nI i) 0 (q_sj u 1 pg)) (fun r1 u2 => (if r1 = 0 then (some (0, u2)) else (q_nm (nI i + 1) (fun v4 => (ih4 (nI (nxt n (64 * (i + 1)))) v4 u2))))) := by
  intro k
  induction k with
  | zero =>
    intro w n' u h1 h2 hQ
    have : w = 8 := by omega
    subst this
    refine ⟨q_j u 1, fun _ _ => rfl, fun w' q1 q2 => by omega, ?_⟩
    have e : q_sj u 1 (q_j u 1) = u := by
      unfold q_sj q_j
      refine Prod.ext rfl (Prod.ext rfl (funext fun j => ?_))
      show (if j = 1 then u.2.2 1 else u.2.2 j) = u.2.2 j
      split
      · rename_i e; rw [e]
      · rfl
    rw [e, lp_1 _ _ (by omega), gf18, if_pos (by decide), show 64 * i + 8 * 8 = 64 * (i + 1) by omega]
  | succ k ih =>
    intro w n' u h1 h2 hQ
    have r1 := g31 (ih18 := q_lp (gf18 BO ln L N ih4) (fun _ _ _ _ => none) (n' - 1)) (x3 := nI i) (w := w) (m := 64 * i + 8 * w) (L := L) hn h6 (by omega) hQ 8 0 N (by omega) (by omega)
    obtain ⟨pg, p1, p2, p3⟩ := ih (w + 1) (n' - 1) (q_sj u 1 (vp_updL (q_j u 1) w (pgw (fun k => tb (nxt n (64 * i + 8 * w + k))) 8))) (by omega) (by omega) (hP _ _ hQ)
    refine ⟨pg, fun w' q => ?_, fun w' q1 q2 => ?_, ?_⟩
    · rw [p1 w' (by omega), qj_eq, upL_n (by omega)]
    · by_cases c : w' = w
      · rw [p1 w' (by omega), qj_eq, c, upL_s]; rfl
      · exact p2 w' (by omega) q2
    · rw [lp_1 (gf18 BO ln L N ih4) _ (n := n') (by omega), gf18, if_neg (show ¬ (8 : Int32) ≤ nI w from nI_ge (a := w) (b := 8) (by omega) (by omega))]
      rw [sj_sj] at p3
      exact r1.trans p3
/-- STREAMING, so many sectors are written -/
def flU (B T S C W Ls h t : Nat) (cl : Cl) (b p : Nat) (ct : Nat → Nat → Int64) (ux um : q_St) : Prop := vU B T S C W Ls h t cl (some b) (prg cl) ux um ∧ ∀ j, j < p → nl ux (b * W + j) ∧ ∀ w, w < 8 → sec ux (b * W + j) w = ct j w
theorem l_fillk {B T S C W Ls h t b tr : Nat} {cl : Cl} {L : Nat → Nat} {N : Nat} {BO : Int32 → q_St → Option (Int32 × q_St)} {ln n : Nat} {tb : Nat → Int32} {ih2 : Int32 → q_St → Option (Int32 × q_St)} (g : Geo B T S C W Ls) (gl : gL B C W Ls L) (hN : 300 ≤ N) (hn : n < 2 ^ 30) (ht : tr < T) (hP : ∀ u pg, tpQ BO ln n tb u → tpQ BO ln n tb (q_sj u 1 pg)) (hS : ∀ u x r v, fX2_writeShingle_18 L N x 0 u = some (r, v) → tpQ BO ln n tb u → tpQ BO ln n tb v) : ∀ (k i n1 n2 : Nat) (ux um : q_St), i + k = 8 → k ≤ n1 → k < n2 → flU B T S C W Ls h t cl b (8 * tr + i) (ctw n tb) ux um → tpQ BO ln n tb ux →
    (∃ vx vm, q_lp (gf4 BO ln L N) (fun _ _ _ => none) n1 (nI (nxt n (64 * (8 * tr + i)))) (nI (8 * tr + i)) ux = some (0, vx) ∧ q_lp (fX11_fill_b12 N ih2) (fun _ _ _ => none) n2 (nI tr) (nI i) um = some (0, vm) ∧ vU B T S C W Ls h t cl (some b) (prg cl) vx vm ∧ q_i vx 7 = 0 ∧ q_a vm 4 = q_a um 4 ∧ ∀ x w, x < Ls → w < 8 → ¬ x / W = b → dsk C W Ls t cl vx vm x w = dsk C W Ls t cl ux um x w) ∨
    (∃ vx vm, q_lp (gf4 BO ln L N) (fun _ _ _ => none) n1 (nI (nxt n (64 * (8 * tr + i)))) (nI (8 * tr + i)) ux = q_lp (gf4 BO ln L N) (fun _ _ _ => none) (n1 - k) (nI (nxt n (64 * (8 * (tr + 1))))) (nI (8 * (tr + 1))) vx ∧ q_lp (fX11_fill_b12 N ih2) (fun _ _ _ => none) n2 (nI tr) (nI i) um = ih2 (nI (tr + 1)) vm ∧ flU B T S C W Ls h t cl b (8 * (tr + 1)) (ctw n tb) vx vm ∧ q_i vx 7 = q_i ux 7 ∧ q_a vm 4 = q_a um 4 ∧ (∀ x w, x < Ls → w < 8 → ¬ x / W = b → dsk C W Ls t cl vx vm x w = dsk C W Ls t cl ux um x w) ∧ tpQ BO ln n tb vx) := by
  have hw := g.w
  have hl := g.l
  obtain ⟨a1, a2, a3, a4, a5, a6⟩ := id g
  intro k
  induction k with
  | zero =>
    intro i n1 n2 ux um h1 h2 h3 v hQ
    right
    have : i = 8 := by omega
    subst this
    refine ⟨ux, um, rfl, ?_, v, rfl, rfl, fun _ _ _ _ _ => rfl, hQ⟩
    rw [lp_1 _ _ (by omega), fX11_fill_b12, if_pos (by decide), qn_s, nI_1]
  | succ k ih =>
    intro i n1 n2 ux um h1 h2 h3 v hQ
    obtain ⟨⟨gx, gm⟩, vw, vr, cr, lr, ⟨k1, ks⟩, vc, e1, e2, e3, e4⟩ := id v.1
    have hb : b < B := e4 b rfl
    have hi0 : 8 * tr + i < W := by omega
    have hbW : b * W ≤ B * W := Nat.mul_le_mul_right _ (by omega)
    obtain ⟨pg, p1, p2, p3⟩ := g18 (L := L) (N := N) (ih4 := q_lp (gf4 BO ln L N) (fun _ _ _ => none) (n1 - 1)) (i := 8 * tr + i) hn hN gl.2.2.2.2.2.2.1 hP 8 0 N ux (by omega) (by omega) hQ
    have p3 : q_lp (gf18 BO ln L N (q_lp (gf4 BO ln L N) (fun _ _ _ => none) (n1 - 1))) (fun _ _ _ _ => none) N (nI (nxt n (64 * (8 * tr + i)))) (nI (8 * tr + i)) 0 ux = _ := p3
    have vp : vU B T S C W Ls h t cl (some b) (prg cl) (q_sj ux 1 pg) um := v.1
    have h8 : ¬ (8 : Int32) ≤ nI i := nI_ge (a := i) (b := 8) (by omega) (by omega)
    rw [lp_1 (gf4 BO ln L N) _ (n := n1) (by omega), gf4, gx.2.2.2.1, if_neg (nI_ge hi0 (by omega)), p3, gx.2.2.2.1, ks.1, pk_mul, nI_add]
    rw [lp_1 (fX11_fill_b12 N ih2) _ (n := n2) (by omega), fX11_fill_b12, if_neg h8, ks.2]
    rcases l_fill1 (N := N) (i := i) g gl hN ht (by omega) vp with ⟨vx, vm, f1, f2, f3, f4, f6, f5⟩ | ⟨vx, vm, f1, f2, f3, f4, f6, f5, f7, f8, f9⟩
    · left
      rw [f1, f2, qb_s, qb_s, if_pos rfl, if_pos rfl]
      exact ⟨vx, vm, rfl, rfl, f3, f4, f6, f5⟩
    · rw [f1, f2, qb_s, qb_s, if_neg (by decide), if_neg (by decide), qn_s, qn_s, nI_1, nI_1]
      have v2 : flU B T S C W Ls h t cl b (8 * tr + (i + 1)) (ctw n tb) vx vm := by
        refine ⟨f3, fun j hj => ?_⟩
        by_cases c : j = 8 * tr + i
        · rw [c]
          exact ⟨f8, fun w hw8 => (f9 w hw8).trans (p2 w (Nat.zero_le _) hw8)⟩
        · obtain ⟨y1, y2⟩ := f7 j (by omega)
          obtain ⟨y3, y4⟩ := v.2 j (by omega)
          exact ⟨y1.trans y3, fun w hw8 => (y2 w hw8).trans (y4 w hw8)⟩
      have hQ2 := hS _ _ _ _ f1 (hP _ pg hQ)
      rcases ih (i + 1) (n1 - 1) (n2 - 1) vx vm (by omega) (by omega) (by omega) v2 hQ2 with ⟨wx, wm, z1, z2, z3, z4, z5, z6⟩ | ⟨wx, wm, z1, z2, z3, z4, z5, z6, z7⟩
      · exact Or.inl ⟨wx, wm, z1, z2, z3, z4, z5.trans f6, fun x w hx hw8 hb => (z6 x w hx hw8 hb).trans (f5 x w hx hw8 hb)⟩
      · refine Or.inr ⟨wx, wm, ?_, z2, z3, z4.trans f4, z5.trans f6, fun x w hx hw8 hb => (z6 x w hx hw8 hb).trans (f5 x w hx hw8 hb), z7⟩
        rw [show n1 - (k + 1) = n1 - 1 - k by omega]
        exact z1
/-- the end of STREAMING in the reference -/
def mfe (N : Nat) : q_St → Option (Int32 × q_St) := fun u => (q_bnd (fX11_record N u) (fun r1 u2 => (if r1 = 0 then (some (0, u2)) else (q_nm (q_si u2 24 (-1)) (fun u4 => (q_bnd (fX11_oldest N u4) (fun r5 u6 => (q_nm (q_si u6 18 r5) (fun u8 => (some (1, u8)))))))))))
theorem l_fillt {B T S C W Ls h t b : Nat} {cl : Cl} {L : Nat → Nat} {N : Nat} {BO : Int32 → q_St → Option (Int32 × q_St)} {ln n : Nat} {tb : Nat → Int32} (g : Geo B T S C W Ls) (gl : gL B C W Ls L) (hN : 300 ≤ N) (hn : n < 2 ^ 30) (hP : ∀ u pg, tpQ BO ln n tb u → tpQ BO ln n tb (q_sj u 1 pg)) (hS : ∀ u x r v, fX2_writeShingle_18 L N x 0 u = some (r, v) → tpQ BO ln n tb u → tpQ BO ln n tb v) : ∀ (k tr n1 n2 : Nat) (ux um : q_St), tr + k = T → 8 * k < n1 → k < n2 → flU B T S C W Ls h t cl b (8 * tr) (ctw n tb) ux um → tpQ BO ln n tb ux →
    (∃ vx vm, q_lp (gf4 BO ln L N) (fun _ _ _ => none) n1 (nI (nxt n (64 * (8 * tr)))) (nI (8 * tr)) ux = some (0, vx) ∧ q_lp (fX11_fill_b2 N) (fun _ _ => none) n2 (nI tr) um = some (0, vm) ∧ vU B T S C W Ls h t cl (some b) (prg cl) vx vm ∧ q_i vx 7 = 0 ∧ q_a vm 4 = q_a um 4 ∧ ∀ x w, x < Ls → w < 8 → ¬ x / W = b → dsk C W Ls t cl vx vm x w = dsk C W Ls t cl ux um x w) ∨
    (∃ vx vm, q_lp (gf4 BO ln L N) (fun _ _ _ => none) n1 (nI (nxt n (64 * (8 * tr)))) (nI (8 * tr)) ux = some (1, vx) ∧ q_lp (fX11_fill_b2 N) (fun _ _ => none) n2 (nI tr) um = mfe N vm ∧ flU B T S C W Ls h t cl b W (ctw n tb) vx vm ∧ q_i vx 7 = q_i ux 7 ∧ q_a vm 4 = q_a um 4 ∧ ∀ x w, x < Ls → w < 8 → ¬ x / W = b → dsk C W Ls t cl vx vm x w = dsk C W Ls t cl ux um x w) := by
  have hw := g.w
  have hl := g.l
  obtain ⟨a1, a2, a3, a4, a5, a6⟩ := id g
  intro k
  induction k with
  | zero =>
    intro tr n1 n2 ux um h1 h2 h3 v hQ
    right
    have : tr = T := by omega
    subst this
    obtain ⟨⟨gx, gm⟩, -⟩ := id v.1
    refine ⟨ux, um, ?_, ?_, by rw [← a5] at v; exact v, rfl, rfl, fun _ _ _ _ _ => rfl⟩
    · rw [lp_1 _ _ (by omega), gf4, gx.2.2.2.1, if_pos (nI_le (by omega) (by omega))]
    · rw [lp_1 _ _ (by omega), fX11_fill_b2, gm.2.1, if_pos (nI_le (by omega) (by omega))]
      rfl
  | succ k ih =>
    intro tr n1 n2 ux um h1 h2 h3 v hQ
    obtain ⟨⟨gx, gm⟩, -⟩ := id v.1
    rw [lp_1 (fX11_fill_b2 N) _ (n := n2) (by omega), fX11_fill_b2, gm.2.1, if_neg (nI_ge (by omega) (by omega))]
    rcases l_fillk (N := N) (ih2 := q_lp (fX11_fill_b2 N) (fun _ _ => none) (n2 - 1)) (tr := tr) g gl hN hn (by omega) hP hS 8 0 n1 N ux um (by omega) (by omega) (by omega) v hQ with ⟨wx, wm, z1, z2, z3, z4, z5, z6⟩ | ⟨wx, wm, z1, z2, z3, z4, z5, z6, z7⟩
    · exact Or.inl ⟨wx, wm, z1, z2, z3, z4, z5, z6⟩
    · rcases ih (tr + 1) (n1 - 8) (n2 - 1) wx wm (by omega) (by omega) (by omega) z3 z7 with ⟨yx, ym, y1, y2, y3, y4, y5, y6⟩ | ⟨yx, ym, y1, y2, y3, y4, y5, y6⟩
      · exact Or.inl ⟨yx, ym, z1.trans y1, z2.trans y2, y3, y4, y5.trans z5, fun x w hx hw8 hb => (y6 x w hx hw8 hb).trans (z6 x w hx hw8 hb)⟩
      · exact Or.inr ⟨yx, ym, z1.trans y1, z2.trans y2, y3, y4.trans z4, y5.trans z5, fun x w hx hw8 hb => (y6 x w hx hw8 hb).trans (z6 x w hx hw8 hb)⟩
