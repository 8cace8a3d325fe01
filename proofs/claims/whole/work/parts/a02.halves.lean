/-! ===== numbers of 16 and of 8 bits in SECTORS; what the reference soils ===== -/
def hH (K : Nat → Nat → Int64) (x i : Nat) : Nat := hfN (K x (i / 4)) (i % 4)
def hO (K : Nat → Nat → Int64) (x i : Nat) : Nat := ocN (K x (i / 8)) (i % 8)
/-- as half() tells it: of 0 nothing is told -/
def kH (K : Nat → Nat → Int64) (x i : Nat) : Nat := if x = 0 then 0 else hH K x i
theorem hH_lt (K : Nat → Nat → Int64) (x i : Nat) : hH K x i < 65536 := hfN_lt _ _
theorem hO_lt (K : Nat → Nat → Int64) (x i : Nat) : hO K x i < 256 := ocN_lt _ _
theorem kH_lt (K : Nat → Nat → Int64) (x i : Nat) : kH K x i < 65536 := by
  have := hH_lt K x i
  unfold kH
  split <;> omega
theorem x_half {B T S C W Ls hb : Nat} {um : q_St} {D K : Nat → Nat → Int64} {dd : Nat → Bool} {L : Nat → Nat} {N : Nat} {ux : q_St} {x i : Nat} (g : Geo B T S C W Ls) (gl : gL B C W Ls L) (s : XS B T S C W Ls hb um D K dd ux) (hx : x < Ls) (hi : i < 32) : fX6_half L N (nI x) (nI i) ux = some (nI (kH K x i), ux) := by
  have hl := g.l
  unfold fX6_half kH
  by_cases c : x = 0
  · rw [if_pos c, c, if_pos (show nI 0 = (0 : Int32) from rfl)]; rfl
  · have hm := Nat.mod_lt i (show 0 < 4 by decide)
    rw [if_neg c, if_neg (nI_ne0 (by omega) (by omega)), show nI i / (4 : Int32) = nI (i / 4) from pk_div (d := 4) (by omega) (by decide) (by decide), x_word g gl s hx (by omega), qb_s, show nI (i / 4) * (4 : Int32) = nI (i / 4 * 4) from pk_mul _ 4, pk_sub (by omega), show i - i / 4 * 4 = i % 4 by omega, show (16 : Int32) * nI (i % 4) = nI (16 * (i % 4)) from pk_mul 16 _, i_l2i _ 16 (by decide) 65535 (by decide), uN_lush _ (by omega)]
    rfl
theorem x_octet {B T S C W Ls hb : Nat} {um : q_St} {D K : Nat → Nat → Int64} {dd : Nat → Bool} {L : Nat → Nat} {N : Nat} {ux : q_St} {x i : Nat} (g : Geo B T S C W Ls) (gl : gL B C W Ls L) (s : XS B T S C W Ls hb um D K dd ux) (hx : x < Ls) (hi : i < 64) : fX6_octet L N (nI x) (nI i) ux = some (nI (hO K x i), ux) := by
  have hm := Nat.mod_lt i (show 0 < 8 by decide)
  unfold fX6_octet
  rw [show nI i / (8 : Int32) = nI (i / 8) from pk_div (d := 8) (by omega) (by decide) (by decide), x_word g gl s hx (by omega), qb_s, show nI (i / 8) * (8 : Int32) = nI (i / 8 * 8) from pk_mul _ 8, pk_sub (by omega), show i - i / 8 * 8 = i % 8 by omega, show (8 : Int32) * nI (i % 8) = nI (8 * (i % 8)) from pk_mul 8 _, i_l2i _ 8 (by decide) 255 (by decide), uN_lush _ (by omega)]
  rfl
def sHf (r : Int64) (i n : Nat) : Int64 := (r &&& ((q_lshl 65535 (nI (16 * i))) ^^^ (-1))) ||| (q_lshl ((Int32.toInt64 (nI n)) &&& 65535) (nI (16 * i)))
def sOc (r : Int64) (i n : Nat) : Int64 := (r &&& ((q_lshl 255 (nI (8 * i))) ^^^ (-1))) ||| (q_lshl ((Int32.toInt64 (nI n)) &&& 255) (nI (8 * i)))
def setH (K : Nat → Nat → Int64) (x i n : Nat) : Nat → Nat → Int64 := setW K x (i / 4) (sHf (K x (i / 4)) (i % 4) n)
def setO (K : Nat → Nat → Int64) (x i n : Nat) : Nat → Nat → Int64 := setW K x (i / 8) (sOc (K x (i / 8)) (i % 8) n)
theorem hH_set {K : Nat → Nat → Int64} {x i n : Nat} (hn : n < 65536) (y j : Nat) : hH (setH K x i n) y j = if y = x ∧ j = i then n else hH K y j := by
  have hm := Nat.mod_lt i (show 0 < 4 by decide)
  have hm2 := Nat.mod_lt j (show 0 < 4 by decide)
  unfold hH setH
  by_cases c : y = x ∧ j / 4 = i / 4
  · rw [c.1, c.2, setW_s]
    unfold sHf
    rw [hfN_set hm hn (by decide +kernel) (by rw [uN_and, uN_i2l (by omega), show uN 65535 = 2 ^ 16 - 1 from by decide +kernel, Nat.and_two_pow_sub_one_eq_mod]) hm2]
    by_cases c2 : j = i
    · rw [if_pos (by rw [c2]), if_pos ⟨rfl, c2⟩]
    · rw [if_neg (by omega), if_neg (fun z => c2 z.2)]
  · rw [setW_n c, if_neg (fun z => c ⟨z.1, by rw [z.2]⟩)]
theorem hO_set {K : Nat → Nat → Int64} {x i n : Nat} (hn : n < 256) (y j : Nat) : hO (setO K x i n) y j = if y = x ∧ j = i then n else hO K y j := by
  have hm := Nat.mod_lt i (show 0 < 8 by decide)
  have hm2 := Nat.mod_lt j (show 0 < 8 by decide)
  unfold hO setO
  by_cases c : y = x ∧ j / 8 = i / 8
  · rw [c.1, c.2, setW_s]
    unfold sOc
    rw [ocN_set hm hn (by decide +kernel) (by rw [uN_and, uN_i2l (by omega), show uN 255 = 2 ^ 8 - 1 from by decide +kernel, Nat.and_two_pow_sub_one_eq_mod]) hm2]
    by_cases c2 : j = i
    · rw [if_pos (by rw [c2]), if_pos ⟨rfl, c2⟩]
    · rw [if_neg (by omega), if_neg (fun z => c2 z.2)]
  · rw [setW_n c, if_neg (fun z => c ⟨z.1, by rw [z.2]⟩)]
theorem setH_w {K : Nat → Nat → Int64} {x i n y w : Nat} (h : ¬ (y = x ∧ w = i / 4)) : setH K x i n y w = K y w := setW_n h
theorem setO_w {K : Nat → Nat → Int64} {x i n y w : Nat} (h : ¬ (y = x ∧ w = i / 8)) : setO K x i n y w = K y w := setW_n h
theorem x_setHalf {B T S C W Ls hb : Nat} {um : q_St} {D K : Nat → Nat → Int64} {dd : Nat → Bool} {L : Nat → Nat} {N : Nat} {ux : q_St} {x i n : Nat} (g : Geo B T S C W Ls) (gl : gL B C W Ls L) (s : XS B T S C W Ls hb um D K dd ux) (hx : x < Ls) (hi : i < 32) : ∃ vx, fX6_setHalf L N (nI x) (nI i) (nI n) ux = some ((), vx) ∧ XS B T S C W Ls hb um D (setH K x i n) (setb dd x true) vx := by
  obtain ⟨vx, f1, f2⟩ := x_setWord (N := N) (v := sHf (K x (i / 4)) (i % 4) n) g gl s hx (show i / 4 < 8 by omega)
  refine ⟨vx, ?_, f2⟩
  unfold fX6_setHalf
  rw [show nI i / (4 : Int32) = nI (i / 4) from pk_div (d := 4) (by omega) (by decide) (by decide), show nI (i / 4) * (4 : Int32) = nI (i / 4 * 4) from pk_mul _ 4, pk_sub (by omega), show i - i / 4 * 4 = i % 4 by omega, show (16 : Int32) * nI (i % 4) = nI (16 * (i % 4)) from pk_mul 16 _, qn_s, x_word g gl s hx (by omega), qb_s, qn_s]
  unfold sHf at f1
  rw [f1, qb_s]
theorem x_setOctet {B T S C W Ls hb : Nat} {um : q_St} {D K : Nat → Nat → Int64} {dd : Nat → Bool} {L : Nat → Nat} {N : Nat} {ux : q_St} {x i n : Nat} (g : Geo B T S C W Ls) (gl : gL B C W Ls L) (s : XS B T S C W Ls hb um D K dd ux) (hx : x < Ls) (hi : i < 64) : ∃ vx, fX6_setOctet L N (nI x) (nI i) (nI n) ux = some ((), vx) ∧ XS B T S C W Ls hb um D (setO K x i n) (setb dd x true) vx := by
  obtain ⟨vx, f1, f2⟩ := x_setWord (N := N) (v := sOc (K x (i / 8)) (i % 8) n) g gl s hx (show i / 8 < 8 by omega)
  refine ⟨vx, ?_, f2⟩
  unfold fX6_setOctet
  rw [show nI i / (8 : Int32) = nI (i / 8) from pk_div (d := 8) (by omega) (by decide) (by decide), show nI (i / 8) * (8 : Int32) = nI (i / 8 * 8) from pk_mul _ 8, pk_sub (by omega), show i - i / 8 * 8 = i % 8 by omega, show (8 : Int32) * nI (i % 8) = nI (8 * (i % 8)) from pk_mul 8 _, qn_s, x_word g gl s hx (by omega), qb_s, qn_s]
  unfold sOc at f1
  rw [f1, qb_s]
/-- the reference's DIRTY ones -/
def MS (Ls : Nat) (dd : Nat → Bool) (um : q_St) : Prop := (∀ x, x < Ls → q_a um 33 x = b2i (dd x)) ∧ q_i um 25 = nI (cnt dd Ls)
theorem m_soil {Ls : Nat} {dd : Nat → Bool} {N : Nat} {um : q_St} {x : Nat} (hl : Ls ≤ 2048) (s : MS Ls dd um) (hx : x < Ls) : ∃ vm, fX11_soil N (nI x) um = some ((), vm) ∧ MS Ls (setb dd x true) vm := by
  have hc : cnt dd Ls ≤ Ls := cnt_le dd Ls
  unfold fX11_soil fX11_soil_b19
  rw [qr_n (by omega) (by omega), s.1 x hx]
  have hr : ∀ y, y < Ls → upd (q_a um 33) x 1 y = b2i (setb dd x true y) := by
    intro y hy
    by_cases c : y = x
    · rw [c, up_s, setb_s]; rfl
    · rw [up_n c, setb_n c]; exact s.1 y hy
  cases hd : dd x with
  | true =>
    rw [b2i_t, if_neg (by decide), qn_s, qw_n (by omega) (by omega), cl_n (by omega), nar_1]
    refine ⟨_, rfl, hr, ?_⟩
    show q_i um 25 + 0 = _
    rw [i32_add0, setb_id hd]
    exact s.2
  | false =>
    rw [b2i_f, if_pos rfl, qn_s, qw_n (by omega) (by omega), cl_n (by omega), nar_1]
    refine ⟨_, rfl, hr, ?_⟩
    show q_i um 25 + 1 = _
    rw [s.2, nI_1, cnt_set hx hd]
theorem m_wash {Ls : Nat} {dd : Nat → Bool} {N : Nat} {um : q_St} {x : Nat} (hl : Ls ≤ 2048) (s : MS Ls dd um) (hx : x < Ls) : ∃ vm, fX11_wash N (nI x) um = some ((), vm) ∧ MS Ls (setb dd x false) vm := by
  have hc : cnt dd Ls ≤ Ls := cnt_le dd Ls
  unfold fX11_wash fX11_wash_b19
  rw [qr_n (by omega) (by omega), s.1 x hx]
  have hr : ∀ y, y < Ls → upd (q_a um 33) x 0 y = b2i (setb dd x false y) := by
    intro y hy
    by_cases c : y = x
    · rw [c, up_s, setb_s]; rfl
    · rw [up_n c, setb_n c]; exact s.1 y hy
  cases hd : dd x with
  | true =>
    have h1 := cnt_clr hx hd
    rw [b2i_t, if_neg (by decide), qn_s, qw_n (by omega) (by omega), cl_n (by omega), nar_0]
    refine ⟨_, rfl, hr, ?_⟩
    show q_i um 25 - 1 = _
    rw [s.2, show nI (cnt dd Ls) - (1 : Int32) = nI (cnt dd Ls - 1) from pk_sub (b := 1) (by omega)]
    congr 1
    omega
  | false =>
    rw [b2i_f, if_pos rfl, qn_s, qw_n (by omega) (by omega), cl_n (by omega), nar_0]
    refine ⟨_, rfl, hr, ?_⟩
    show q_i um 25 - 0 = _
    rw [show q_i um 25 - (0 : Int32) = q_i um 25 by simp, setb_id hd]
    exact s.2
