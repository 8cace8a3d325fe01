/-! ===== NODES read, in both ===== -/
/-- the class's state and the tree in it -/
def Xr (B T S C W Ls na hb : Nat) (um : q_St) (D K : Nat → Nat → Int64) (dd : Nat → Bool) (A : Nat → Nat → Nat) (nm : Nat → Int64) (L : Nat → Nat) (ux : q_St) : Prop := (Geo B T S C W Ls ∧ gL B C W Ls L ∧ na = 80 + (Ls + 511) / 512) ∧ XS B T S C W Ls hb um D K dd ux ∧ RX W Ls na A nm K ∧ TW B W Ls (na + 64) A nm
/-- a number of a NODE, or none -/
theorem nod (o : Int32) : (∃ n, n < 64 ∧ o = nI n) ∨ (o < 0 ∨ (¬ o < 0 ∧ (64 : Int32) ≤ o)) := by
  by_cases c1 : o < 0
  · exact Or.inr (Or.inl c1)
  · by_cases c2 : (64 : Int32) ≤ o
    · exact Or.inr (Or.inr ⟨c1, c2⟩)
    · obtain ⟨m, m1, m2⟩ := i_nat (n := 64) c1 (by
        rw [Int32.lt_iff_toInt_lt]
        rw [Int32.le_iff_toInt_le] at c2
        have : (nI 64) = (64 : Int32) := rfl
        rw [this]
        omega) (by decide)
      exact Or.inl ⟨m, m1, m2⟩
theorem n64 {n : Nat} (h : n < 64) : ¬ nI n < 0 ∧ ¬ (64 : Int32) ≤ nI n := ⟨nI_pos (by omega), nI_ge (a := n) (b := 64) h (by omega)⟩
theorem Xr.na30 {B T S C W Ls na hb : Nat} {um : q_St} {D K : Nat → Nat → Int64} {dd : Nat → Bool} {A : Nat → Nat → Nat} {nm : Nat → Int64} {L : Nat → Nat} {ux : q_St} (x : Xr B T S C W Ls na hb um D K dd A nm L ux) : q_i ux 30 = nI na ∧ na + 64 < Ls := by
  obtain ⟨⟨g, gl, hna⟩, s, -⟩ := x
  have hl := g.l
  have gx := s.1.gx
  exact ⟨by rw [gx.2.2.2.2.2.2.2.2.2.2.2.1, hna], by omega⟩
theorem x_oct {B T S C W Ls na hb : Nat} {um : q_St} {D K : Nat → Nat → Int64} {dd : Nat → Bool} {A : Nat → Nat → Nat} {nm : Nat → Int64} {L : Nat → Nat} {N : Nat} {ux : q_St} (x : Xr B T S C W Ls na hb um D K dd A nm L ux) {n i : Nat} (hn : n < 64) (hi : i < 64) : fX6_octet L N (q_i ux 30 + nI n) (nI i) ux = some (nI (sO (K (na + n)) i), ux) := by
  obtain ⟨e, h⟩ := x.na30
  obtain ⟨⟨g, gl, hna⟩, s, -⟩ := x
  rw [e, nI_add, x_octet g gl s (by omega) hi]
  rfl
theorem x_kindOf {B T S C W Ls na hb : Nat} {um : q_St} {D K : Nat → Nat → Int64} {dd : Nat → Bool} {A : Nat → Nat → Nat} {nm : Nat → Int64} {L : Nat → Nat} {N : Nat} {ux : q_St} (x : Xr B T S C W Ls na hb um D K dd A nm L ux) {n : Nat} (hn : n < 64) : fX4_kindOf L N (nI n) ux = some (nI (A 5 n), ux) := by
  have m := (x.2.2.1.2.1 n hn).1
  unfold fX4_kindOf fX4_isNumber
  rw [if_neg (n64 hn).1, if_neg (n64 hn).2, qb_s, if_neg (by decide), show (0 : Int32) = nI 0 from rfl, x_oct x hn (by decide), qb_s]
  unfold sO
  rw [m]
theorem x_kindOut {L : Nat → Nat} {N : Nat} {ux : q_St} {o : Int32} (h : o < 0 ∨ (¬ o < 0 ∧ (64 : Int32) ≤ o)) : fX4_kindOf L N o ux = some (0, ux) := by
  unfold fX4_kindOf fX4_isNumber
  rcases h with h | ⟨h1, h2⟩
  · rw [if_pos h, qb_s, if_pos rfl]
  · rw [if_neg h1, if_pos h2, qb_s, if_pos rfl]
theorem x_ownerOf {B T S C W Ls na hb : Nat} {um : q_St} {D K : Nat → Nat → Int64} {dd : Nat → Bool} {A : Nat → Nat → Nat} {nm : Nat → Int64} {L : Nat → Nat} {N : Nat} {ux : q_St} (x : Xr B T S C W Ls na hb um D K dd A nm L ux) {n : Nat} (hn : n < 64) (hk : A 5 n ≠ 0) : fX4_ownerOf L N (nI n) ux = some (nI (A 11 n), ux) := by
  have m := ((x.2.2.1.2.1 n hn).2.1 hk).1
  unfold fX4_ownerOf
  rw [show (1 : Int32) = nI 1 from rfl, x_oct x hn (by decide), qb_s]
  unfold sO
  rw [m]
theorem x_modeOf {B T S C W Ls na hb : Nat} {um : q_St} {D K : Nat → Nat → Int64} {dd : Nat → Bool} {A : Nat → Nat → Nat} {nm : Nat → Int64} {L : Nat → Nat} {N : Nat} {ux : q_St} (x : Xr B T S C W Ls na hb um D K dd A nm L ux) {n : Nat} (hn : n < 64) (hk : A 5 n ≠ 0) (h4 : A 5 n ≠ 4) : fX4_modeOf L N (nI n) ux = some (nI (A 12 n), ux) := by
  have m := ((x.2.2.1.2.1 n hn).2.1 hk).2.1
  rw [if_neg h4] at m
  unfold fX4_modeOf
  rw [show (2 : Int32) = nI 2 from rfl, x_oct x hn (by decide), qb_s]
  unfold sO
  rw [m]
theorem x_linksOf {B T S C W Ls na hb : Nat} {um : q_St} {D K : Nat → Nat → Int64} {dd : Nat → Bool} {A : Nat → Nat → Nat} {nm : Nat → Int64} {L : Nat → Nat} {N : Nat} {ux : q_St} (x : Xr B T S C W Ls na hb um D K dd A nm L ux) {n : Nat} (hn : n < 64) (hk : A 5 n ≠ 0) : fX4_linksOf L N (nI n) ux = some (nI (if A 5 n = 1 ∨ A 5 n = 3 then A 15 n else 0), ux) := by
  have m := ((x.2.2.1.2.1 n hn).2.1 hk).2.2.1
  unfold fX4_linksOf
  rw [show (3 : Int32) = nI 3 from rfl, x_oct x hn (by decide), qb_s]
  unfold sO
  rw [m]
theorem x_hlf {B T S C W Ls na hb : Nat} {um : q_St} {D K : Nat → Nat → Int64} {dd : Nat → Bool} {A : Nat → Nat → Nat} {nm : Nat → Int64} {L : Nat → Nat} {N : Nat} {ux : q_St} (x : Xr B T S C W Ls na hb um D K dd A nm L ux) {n i : Nat} (hn : n < 64) (hi : i < 32) : fX6_half L N (q_i ux 30 + nI n) (nI i) ux = some (nI (sH (K (na + n)) i), ux) := by
  obtain ⟨e, h⟩ := x.na30
  obtain ⟨⟨g, gl, hna⟩, s, -⟩ := x
  rw [e, nI_add, x_half g gl s (by omega) hi]
  unfold kH
  rw [if_neg (by omega)]
  rfl
theorem x_holderOf {B T S C W Ls na hb : Nat} {um : q_St} {D K : Nat → Nat → Int64} {dd : Nat → Bool} {A : Nat → Nat → Nat} {nm : Nat → Int64} {L : Nat → Nat} {N : Nat} {ux : q_St} (x : Xr B T S C W Ls na hb um D K dd A nm L ux) {n : Nat} (hn : n < 64) : fX4_holderOf L N (nI n) ux = some (nI (sH (K (na + n)) 18), ux) := by
  unfold fX4_holderOf
  rw [show (18 : Int32) = nI 18 from rfl, x_hlf x hn (by decide), qb_s]
theorem x_lengthOf {B T S C W Ls na hb : Nat} {um : q_St} {D K : Nat → Nat → Int64} {dd : Nat → Bool} {A : Nat → Nat → Nat} {nm : Nat → Int64} {L : Nat → Nat} {N : Nat} {ux : q_St} (x : Xr B T S C W Ls na hb um D K dd A nm L ux) {n : Nat} (hn : n < 64) (hk : A 5 n ≠ 0) : fX4_lengthOf L N (nI n) ux = some (nI (if A 5 n = 1 ∨ A 5 n = 4 then A 6 n else 0), ux) := by
  have m := ((x.2.2.1.2.1 n hn).2.1 hk).2.2.2
  have hb6 := (x.2.2.2.1.1 n hn).2.2.2.2.1
  obtain ⟨e, h⟩ := x.na30
  obtain ⟨⟨g, gl, hna⟩, s, -⟩ := x
  have hu : uN (q_lush (K (na + n) 0) (nI 32)) = (if A 5 n = 1 ∨ A 5 n = 4 then A 6 n else 0) := by rw [uN_lush _ (by decide), m]
  have hw : fX6_word L N (nI (na + n)) 0 ux = some (K (na + n) 0, ux) := x_word (w := 0) g gl s (by omega) (by decide)
  unfold fX4_lengthOf
  rw [e, nI_add, hw, qb_s, show (32 : Int32) = nI 32 from rfl, i_l2i0 (by rw [hu]; split <;> omega), hu]
theorem x_hasLinks {B T S C W Ls na hb : Nat} {um : q_St} {D K : Nat → Nat → Int64} {dd : Nat → Bool} {A : Nat → Nat → Nat} {nm : Nat → Int64} {L : Nat → Nat} {N : Nat} {ux : q_St} (x : Xr B T S C W Ls na hb um D K dd A nm L ux) {n : Nat} (hn : n < 64) : fX4_hasLinks L N (nI n) ux = some (if A 5 n = 1 ∨ A 5 n = 3 then 1 else 0, ux) := by
  have hk := (x.2.2.2.1.1 n hn).1
  unfold fX4_hasLinks fX4_hasLinks_b16
  rw [x_kindOf x hn, qb_s]
  have : A 5 n = 0 ∨ A 5 n = 1 ∨ A 5 n = 2 ∨ A 5 n = 3 ∨ A 5 n = 4 := by omega
  rcases this with e | e | e | e | e <;> (rw [e]; rfl)
theorem x_hasLinksOut {L : Nat → Nat} {N : Nat} {ux : q_St} {o : Int32} (h : o < 0 ∨ (¬ o < 0 ∧ (64 : Int32) ≤ o)) : fX4_hasLinks L N o ux = some (0, ux) := by
  unfold fX4_hasLinks
  rw [x_kindOut h, qb_s, if_neg (by decide), if_neg (by decide)]
/-- the reference: rows of NODES -/
theorem RM.r7 {Ls : Nat} {A : Nat → Nat → Nat} {nm : Nat → Int64} {a : Nat → Nat → Int32} {nr : Nat → Int64} (r : RM Ls A nm a nr) {k j : Nat} (hk : k ∈ s7) (hj : j < 64) : a k j = nI (A k j) := r.1 k hk j hj
theorem m_isNode {Ls : Nat} {A : Nat → Nat → Nat} {nm : Nat → Int64} {N : Nat} {um : q_St} (r : RM Ls A nm (q_a um) (q_j um 0)) {n : Nat} (hn : n < 64) (hk : A 5 n ≤ 4) : fX11_isNode N (nI n) um = some (if A 5 n = 0 then 0 else 1, um) := by
  unfold fX11_isNode
  rw [if_neg (n64 hn).1, if_neg (n64 hn).2, qr_n hn (by decide), r.r7 (by decide) hn]
  have : A 5 n = 0 ∨ A 5 n = 1 ∨ A 5 n = 2 ∨ A 5 n = 3 ∨ A 5 n = 4 := by omega
  rcases this with e | e | e | e | e <;> (rw [e]; rfl)
theorem m_isNodeOut {N : Nat} {um : q_St} {o : Int32} (h : o < 0 ∨ (¬ o < 0 ∧ (64 : Int32) ≤ o)) : fX11_isNode N o um = some (0, um) := by
  unfold fX11_isNode
  rcases h with h | ⟨h1, h2⟩
  · rw [if_pos h]
  · rw [if_neg h1, if_pos h2]
theorem m_isDir {Ls : Nat} {A : Nat → Nat → Nat} {nm : Nat → Int64} {N : Nat} {um : q_St} (r : RM Ls A nm (q_a um) (q_j um 0)) {n : Nat} (hn : n < 64) (hk : A 5 n ≤ 4) : fX11_isDirectory N (nI n) um = some (if A 5 n = 2 then 1 else 0, um) := by
  unfold fX11_isDirectory
  rw [if_neg (n64 hn).1, if_neg (n64 hn).2, qr_n hn (by decide), r.r7 (by decide) hn]
  have : A 5 n = 0 ∨ A 5 n = 1 ∨ A 5 n = 2 ∨ A 5 n = 3 ∨ A 5 n = 4 := by omega
  rcases this with e | e | e | e | e <;> (rw [e]; rfl)
theorem m_isDirOut {N : Nat} {um : q_St} {o : Int32} (h : o < 0 ∨ (¬ o < 0 ∧ (64 : Int32) ≤ o)) : fX11_isDirectory N o um = some (0, um) := by
  unfold fX11_isDirectory
  rcases h with h | ⟨h1, h2⟩
  · rw [if_pos h]
  · rw [if_neg h1, if_pos h2]
theorem m_isFile {Ls : Nat} {A : Nat → Nat → Nat} {nm : Nat → Int64} {N : Nat} {um : q_St} (r : RM Ls A nm (q_a um) (q_j um 0)) {n : Nat} (hn : n < 64) (hk : A 5 n ≤ 4) : fX11_isFile N (nI n) 1 um = some (if A 5 n = 1 ∨ A 5 n = 3 then 1 else 0, um) ∧ fX11_isFile N (nI n) 0 um = some (if A 5 n = 1 then 1 else 0, um) := by
  unfold fX11_isFile fX11_isFile_b34
  rw [if_neg (n64 hn).1, if_neg (n64 hn).2, if_neg (n64 hn).1, if_neg (n64 hn).2, qr_n hn (by decide), qr_n hn (by decide), qr_n hn (by decide), r.r7 (by decide) hn]
  have : A 5 n = 0 ∨ A 5 n = 1 ∨ A 5 n = 2 ∨ A 5 n = 3 ∨ A 5 n = 4 := by omega
  rcases this with e | e | e | e | e <;> (rw [e]; exact ⟨rfl, rfl⟩)
theorem m_isFileOut {N : Nat} {um : q_St} {o p : Int32} (h : o < 0 ∨ (¬ o < 0 ∧ (64 : Int32) ≤ o)) : fX11_isFile N o p um = some (0, um) := by
  unfold fX11_isFile
  rcases h with h | ⟨h1, h2⟩
  · rw [if_pos h]
  · rw [if_neg h1, if_pos h2]
/-- a call that only reads -/
theorem rd_only {B T S C W Ls na k : Nat} {L : Nat → Nat} {ux um : q_St} {α : Type} {fx : Option (α × q_St)} {fm : Option (α × q_St)} {off : α} (g : Geo B T S C W Ls) (gl : gL B C W Ls L) (hna : na = 80 + (Ls + 511) / 512) (h : Iv B T S C W Ls na k ux um) (hoff : q_i ux 7 = 0 → q_i um 9 = 0 → fx = some (off, ux) ∧ fm = some (off, um))
    (hon : ∀ hb D K dd A nm, q_i ux 7 = 1 → q_i um 9 = 1 → Xr B T S C W Ls na hb um D K dd A nm L ux → RM Ls A nm (q_a um) (q_j um 0) → whR ux um → MS Ls dd um → ∃ r, fx = some (r, ux) ∧ fm = some (r, um)) : ∃ r vx vm, fx = some (r, vx) ∧ fm = some (r, vm) ∧ Iv B T S C W Ls na (k + 1) vx vm := by
  have e9 := Iv_on h
  obtain ⟨sm, D, kv, Ak, nk, al, on⟩ := id h
  rcases on with q | ⟨q1, h7, dh, K, dd, A, nm, xs, ms, c75, h80, rm, tw, rx, nb⟩
  · obtain ⟨a1, a2⟩ := hoff q (e9.trans q)
    exact ⟨off, ux, um, a1, a2, Iv_up h⟩
  · subst q1
    obtain ⟨r, a1, a2⟩ := hon (300 * k) D K dd A nm h7 (e9.trans h7) ⟨⟨g, gl, hna⟩, xs, rx, tw⟩ rm al.2.2.2.2.2.2.2 ms
    exact ⟨r, ux, um, a1, a2, Iv_up h⟩
theorem p_kind {B T S C W Ls na : Nat} {L : Nat → Nat} {N : Nat} (g : Geo B T S C W Ls) (gl : gL B C W Ls L) (hna : na = 80 + (Ls + 511) / 512) : st_kind (Iv B T S C W Ls na) L N := by
  intro k ux um x0 hk h
  refine rd_only (off := -99) g gl hna h (fun q1 q2 => ?_) (fun hb D K dd A nm q1 q2 x rm wh ms => ?_)
  · unfold fX10_kind fX11_kind
    rw [if_pos q1, if_pos q2]
    exact ⟨rfl, rfl⟩
  · unfold fX10_kind fX11_kind fX11_kind_b20
    rw [q1, q2, if_neg (by decide), if_neg (by decide)]
    rcases nod x0 with ⟨n, hn, e⟩ | e
    · subst e
      unfold fX4_isNumber
      rw [if_neg (n64 hn).1, if_neg (n64 hn).2, qb_s, if_neg (by decide), x_kindOf x hn, qb_s, if_neg (n64 hn).1, if_pos (show nI n < 64 from nI_lt (b := 64) hn (by decide)), qr_n hn (by decide), rm.r7 (by decide) hn]
      exact ⟨_, rfl, rfl⟩
    · unfold fX4_isNumber
      rcases e with e | ⟨e1, e2⟩
      · rw [if_pos e, qb_s, if_pos rfl, if_pos e]
        exact ⟨_, rfl, rfl⟩
      · rw [if_neg e1, if_pos e2, qb_s, if_pos rfl, if_neg e1, if_neg (i_nlt.mpr e2)]
        exact ⟨_, rfl, rfl⟩
theorem p_links {B T S C W Ls na : Nat} {L : Nat → Nat} {N : Nat} (g : Geo B T S C W Ls) (gl : gL B C W Ls L) (hna : na = 80 + (Ls + 511) / 512) : st_links (Iv B T S C W Ls na) L N := by
  intro k ux um x0 hk h
  refine rd_only (off := -99) g gl hna h (fun q1 q2 => ?_) (fun hb D K dd A nm q1 q2 x rm wh ms => ?_)
  · unfold fX10_links fX11_links
    rw [if_pos q1, if_pos q2]
    exact ⟨rfl, rfl⟩
  · unfold fX10_links fX11_links
    rw [q1, q2, if_neg (by decide), if_neg (by decide)]
    rcases nod x0 with ⟨n, hn, e⟩ | e
    · subst e
      rw [x_hasLinks x hn, qb_s, (m_isFile rm hn (x.2.2.2.1.1 n hn).1).1, qb_s]
      by_cases c : A 5 n = 1 ∨ A 5 n = 3
      · rw [if_pos c, if_neg (by decide), if_neg (by decide), x_linksOf x hn (by omega), qb_s, if_pos c, qr_n hn (by decide), rm.r7 (by decide) hn]
        exact ⟨_, rfl, rfl⟩
      · rw [if_neg c, if_pos rfl, if_pos rfl]
        exact ⟨_, rfl, rfl⟩
    · rw [x_hasLinksOut e, qb_s, m_isFileOut e, qb_s, if_pos rfl, if_pos rfl]
      exact ⟨_, rfl, rfl⟩
theorem p_parent {B T S C W Ls na : Nat} {L : Nat → Nat} {N : Nat} (g : Geo B T S C W Ls) (gl : gL B C W Ls L) (hna : na = 80 + (Ls + 511) / 512) : st_parent (Iv B T S C W Ls na) L N := by
  intro k ux um x0 hk h
  refine rd_only (off := -99) g gl hna h (fun q1 q2 => ?_) (fun hb D K dd A nm q1 q2 x rm wh ms => ?_)
  · unfold fX10_parent fX11_parent
    rw [if_pos q1, if_pos q2]
    exact ⟨rfl, rfl⟩
  · unfold fX10_parent fX11_parent
    rw [q1, q2, if_neg (by decide), if_neg (by decide)]
    rcases nod x0 with ⟨n, hn, e⟩ | e
    · subst e
      have hk4 := (x.2.2.2.1.1 n hn).1
      rw [x_kindOf x hn, qb_s, m_isDir rm hn hk4, qb_s]
      by_cases c : A 5 n = 2
      · have m := ((x.2.2.1.2.1 n hn).2.2.1 c).2
        rw [if_pos c, c, if_pos (show nI 2 = (2 : Int32) from rfl), if_neg (show ¬ (1 : Int32) = 0 by decide), x_holderOf x hn, qb_s, m, qr_n hn (by decide), rm.r7 (by decide) hn]
        exact ⟨_, rfl, rfl⟩
      · rw [if_neg c, if_pos rfl, if_neg (show ¬ nI (A 5 n) = (2 : Int32) from fun z => c (nI_inj (b := 2) (by omega) (by decide) z))]
        exact ⟨_, rfl, rfl⟩
    · rw [x_kindOut e, qb_s, m_isDirOut e, qb_s, if_neg (by decide), if_pos rfl]
      exact ⟨_, rfl, rfl⟩
theorem p_rights {B T S C W Ls na : Nat} {L : Nat → Nat} {N : Nat} (g : Geo B T S C W Ls) (gl : gL B C W Ls L) (hna : na = 80 + (Ls + 511) / 512) : st_rights (Iv B T S C W Ls na) L N := by
  intro k ux um x0 x1 hk h
  refine rd_only (off := -99) g gl hna h (fun q1 q2 => ?_) (fun hb D K dd A nm q1 q2 x rm wh ms => ?_)
  · unfold fX10_rights fX11_rights fX10_refusalOfFree
    rw [if_pos q1, if_pos q2, qb_s, if_neg (by decide)]
    exact ⟨rfl, rfl⟩
  · unfold fX10_rights fX11_rights fX10_refusalOfFree
    rw [q1, q2, if_neg (by decide), if_neg (by decide)]
    rcases nod x0 with ⟨n, hn, e⟩ | e
    · subst e
      have hk4 := (x.2.2.2.1.1 n hn).1
      rw [x_kindOf x hn, qb_s, m_isNode rm hn hk4, qb_s]
      by_cases c : A 5 n = 0
      · rw [if_pos c, if_pos rfl, c, if_pos (show nI 0 = (0 : Int32) from rfl), qb_s, if_neg (by decide)]
        exact ⟨_, rfl, rfl⟩
      · rw [if_neg c, if_neg (show ¬ nI (A 5 n) = (0 : Int32) from nI_ne0 (by omega) (by omega)), qb_s, if_pos rfl, if_neg (show ¬ (1 : Int32) = 0 by decide)]
        by_cases c0 : x1 = 0
        · rw [c0, if_pos rfl, if_neg (by decide), if_pos rfl, x_ownerOf x hn c, qb_s, qr_n hn (by decide), rm.r7 (by decide) hn]
          exact ⟨_, rfl, rfl⟩
        · rw [if_neg c0, if_neg c0]
          by_cases c1 : x1 = 1
          · rw [if_pos c1, if_pos c1, x_kindOf x hn, qb_s, qr_n hn (by decide), rm.r7 (by decide) hn]
            by_cases c4 : A 5 n = 4
            · rw [c4, if_pos (show nI 4 = (4 : Int32) from rfl), if_pos (show nI 4 = (4 : Int32) from rfl)]
              exact ⟨_, rfl, rfl⟩
            · have n4 : ¬ nI (A 5 n) = (4 : Int32) := fun z => c4 (nI_inj (b := 4) (by omega) (by decide) z)
              rw [if_neg n4, if_neg n4, x_modeOf x hn c c4, qb_s, qr_n hn (by decide), rm.r7 (by decide) hn]
              exact ⟨_, rfl, rfl⟩
          · rw [if_neg c1, if_neg c1]
            exact ⟨_, rfl, rfl⟩
    · rw [x_kindOut e, qb_s, if_pos rfl, qb_s, if_neg (by decide), m_isNodeOut e, qb_s, if_pos rfl]
      exact ⟨_, rfl, rfl⟩
