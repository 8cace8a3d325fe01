/-! ===== the tree, by numbers: how the reference and the class hold it ===== -/
/-- 0 stands for none; a byte of the reference -/
def i0 (v : Nat) : Int32 := if v = 0 then -1 else nI v
def sB (b : Nat) : Int32 := vp_nar .byte (nI b)
/-- A k j: row k of the reference at j, none as 0, bytes without a sign; nm: the NAMES of the SLOTS -/
def RM (Ls : Nat) (A : Nat → Nat → Nat) (nm : Nat → Int64) (a : Nat → Nat → Int32) (nr : Nat → Int64) : Prop :=
  (∀ k ∈ s7, ∀ j, j < 64 → a k j = nI (A k j)) ∧ (∀ j, j < 2176 → a 10 j = i0 (A 10 j)) ∧ (∀ j, j < 68352 → a 9 j = i0 (A 9 j)) ∧ (∀ j, j < 2560 → a 16 j = sB (A 16 j)) ∧ (∀ j, j < 768 → a 13 j = nI (A 13 j)) ∧ (∀ j, j < 3072 → a 14 j = i0 (A 14 j) ∧ (A 14 j ≠ 0 → nr j = nm j)) ∧ (∀ x, x < Ls → a 17 x = nI (A 17 x)) ∧ (∀ j, j < 64 * Ls → a 18 j = sB (A 18 j))
/-- which SECTOR a NODE has in a role: PIECES, INDEXES, BLOCKS of a DIRECTORY, the band of a LAID FILE; 0 if none -/
def tl (A : Nat → Nat → Nat) (W n r : Nat) : Nat :=
  if A 5 n = 1 then (if r < 1068 then A 9 (1068 * n + r) else if r < 1102 then A 10 (34 * n + (r - 1068)) else 0)
  else if A 5 n = 2 then (if 1102 ≤ r ∧ r - 1102 < A 8 n then A 13 (12 * n + (r - 1102)) else 0)
  else if A 5 n = 3 then (if 1114 ≤ r ∧ r - 1114 < W then A 13 (12 * n) + (r - 1114) else 0)
  else 0
/-- the INDEX of a PIECE that has one -/
def ixo (p : Nat) : Nat := if p < 44 then 0 else 2 + (p - 44) / 32
/-- from a DIRECTORY up, so many times -/
def upn (A : Nat → Nat → Nat) : Nat → Nat → Nat
  | 0, n => n
  | k + 1, n => upn A k (A 7 n)
/-- ranges -/
def TW1 (W B : Nat) (A : Nat → Nat → Nat) : Prop := (∀ n, n < 64 → A 5 n ≤ 4 ∧ A 11 n < 16 ∧ A 12 n < 64 ∧ A 15 n ≤ 255 ∧ A 6 n ≤ 68352 ∧ A 8 n ≤ 12 ∧ (A 5 n ≠ 2 → A 8 n = 0)) ∧ (A 5 0 = 2 ∧ A 7 0 = 0) ∧ (∀ n, n < 64 → A 5 n = 2 → A 7 n < 64 ∧ A 5 (A 7 n) = 2 ∧ ∀ k, k < A 8 n → A 13 (12 * n + k) ≠ 0) ∧ (∀ n, n < 64 → A 5 n = 4 → 1 ≤ A 6 n ∧ A 6 n ≤ 40) ∧ (∀ n, n < 64 → A 5 n = 3 → A 6 n = 64 * W ∧ A 13 (12 * n) ≠ 0 ∧ ∃ b, b < B ∧ A 13 (12 * n) = b * W) ∧ (∀ j, A 16 j < 256) ∧ (∀ j, A 18 j < 256) ∧ (∀ x, A 17 x ≤ 1)
/-- PIECES and INDEXES; pb: from which PIECE on there is none -/
def TW2 (pb : Nat → Nat) (A : Nat → Nat → Nat) : Prop := (∀ n, n < 64 → A 5 n ≠ 1 → (∀ p, p < 1068 → A 9 (1068 * n + p) = 0) ∧ ∀ i, i < 34 → A 10 (34 * n + i) = 0) ∧ (∀ n, n < 64 → A 5 n = 1 → (∀ p, p < 1068 → pb n ≤ p → A 9 (1068 * n + p) = 0) ∧ (∀ p, 12 ≤ p → p < 1068 → A 9 (1068 * n + p) ≠ 0 → A 10 (34 * n + ixo p) ≠ 0) ∧ (∀ i, 2 ≤ i → i < 34 → A 10 (34 * n + i) ≠ 0 → A 10 (34 * n + 1) ≠ 0) ∧ (∀ i, i < 34 → i ≠ 1 → A 10 (34 * n + i) ≠ 0 → ∃ p, 12 ≤ p ∧ p < 1068 ∧ ixo p = i ∧ A 9 (1068 * n + p) ≠ 0) ∧ (A 10 (34 * n + 1) ≠ 0 → ∃ i, 2 ≤ i ∧ i < 34 ∧ A 10 (34 * n + i) ≠ 0))
/-- each used SECTOR has one role -/
def TW3 (W Ls fb : Nat) (A : Nat → Nat → Nat) : Prop := (∀ n r n2 r2, n < 64 → n2 < 64 → tl A W n r ≠ 0 → tl A W n r = tl A W n2 r2 → n = n2 ∧ r = r2) ∧ (∀ n r, n < 64 → tl A W n r ≠ 0 → fb ≤ tl A W n r ∧ tl A W n r < Ls ∧ A 17 (tl A W n r) = 1) ∧ (∀ x, fb ≤ x → x < Ls → A 17 x = 1 → ∃ n r, n < 64 ∧ tl A W n r = x) ∧ (∀ x, x < fb → A 17 x = 1)
/-- what is known of the NAME in a SLOT -/
def okN (v : Int64) : Prop := v ≠ 0 ∧ ∀ i, i < 8 → ocN v i < 128
/-- SLOTS; how many a NODE has; up to the root -/
def TW4 (A : Nat → Nat → Nat) (nm : Nat → Int64) : Prop := (∀ j, j < 3072 → A 14 j ≠ 0 → A 5 (j / 48) = 2 ∧ j % 48 < 4 * A 8 (j / 48) ∧ A 14 j < 64 ∧ A 5 (A 14 j) ≠ 0 ∧ okN (nm j) ∧ (A 5 (A 14 j) = 2 → A 7 (A 14 j) = j / 48)) ∧ (∀ n, n < 64 → n ≠ 0 → cnt (fun j => decide (A 14 j = n)) 3072 = if A 5 n = 0 then 0 else A 15 n) ∧ (∀ n, n < 64 → n ≠ 0 → (A 5 n = 2 ∨ A 5 n = 4) → A 15 n = 1) ∧ (∀ n, n < 64 → n ≠ 0 → A 5 n ≠ 0 → 1 ≤ A 15 n) ∧ (∀ n, n < 64 → A 5 n = 2 → ∃ k, upn A k n = 0)
def szp (A : Nat → Nat → Nat) (n : Nat) : Nat := (A 6 n + 63) / 64
def TW (B W Ls fb : Nat) (A : Nat → Nat → Nat) (nm : Nat → Int64) : Prop := TW1 W B A ∧ TW2 (szp A) A ∧ TW3 W Ls fb A ∧ TW4 A nm
/-- numbers in a SECTOR -/
def sH (f : Nat → Int64) (i : Nat) : Nat := hfN (f (i / 4)) (i % 4)
def sO (f : Nat → Int64) (i : Nat) : Nat := ocN (f (i / 8)) (i % 8)
def mNode (A : Nat → Nat → Nat) (W n : Nat) (f : Nat → Int64) : Prop :=
  ocN (f 0) 0 = A 5 n ∧ (A 5 n ≠ 0 → ocN (f 0) 1 = A 11 n ∧ ocN (f 0) 2 = (if A 5 n = 4 then 0 else A 12 n) ∧ ocN (f 0) 3 = (if A 5 n = 1 ∨ A 5 n = 3 then A 15 n else 0) ∧ uN (f 0) >>> 32 = (if A 5 n = 1 ∨ A 5 n = 4 then A 6 n else 0)) ∧ (A 5 n = 2 → (∀ k, k < 12 → sH f (4 + k) = if k < A 8 n then A 13 (12 * n + k) else 0) ∧ sH f 18 = A 7 n) ∧ (A 5 n = 1 → (∀ k, k < 12 → sH f (4 + k) = A 9 (1068 * n + k)) ∧ sH f 16 = A 10 (34 * n) ∧ sH f 17 = A 10 (34 * n + 1)) ∧ (A 5 n = 3 → sH f 18 * W = A 13 (12 * n)) ∧ (A 5 n = 4 → ∀ i, i < A 6 n → sO f (24 + i) = A 16 (40 * n + i))
def mRole (A : Nat → Nat → Nat) (nm : Nat → Int64) (n r x : Nat) (f : Nat → Int64) : Prop :=
  ((A 5 n = 1 ∧ r < 1068) ∨ A 5 n = 3 → ∀ j, j < 64 → sO f j = A 18 (64 * x + j)) ∧ (A 5 n = 1 → r = 1068 → ∀ j, j < 32 → sH f j = A 9 (1068 * n + 12 + j)) ∧ (A 5 n = 1 → r = 1069 → ∀ i, i < 32 → sH f i = A 10 (34 * n + 2 + i)) ∧ (A 5 n = 1 → 1070 ≤ r → ∀ j, j < 32 → sH f j = A 9 (1068 * n + 44 + 32 * (r - 1070) + j)) ∧ (A 5 n = 2 → ∀ s, s < 4 → (A 14 (48 * n + 4 * (r - 1102) + s) = 0 → f s = 0) ∧ (A 14 (48 * n + 4 * (r - 1102) + s) ≠ 0 → f s = nm (48 * n + 4 * (r - 1102) + s) ∧ sH f (16 + s) = A 14 (48 * n + 4 * (r - 1102) + s)))
def mMap (Ls : Nat) (A : Nat → Nat → Nat) (K : Nat → Nat → Int64) : Prop := ∀ x, x < 64 * ((Ls + 63) / 64) → bt (K (80 + x / 512) (x % 512 / 64)) (x % 64) = (decide (x < Ls) && decide (A 17 x = 1))
/-- the class holds the tree in K -/
def RX (W Ls na : Nat) (A : Nat → Nat → Nat) (nm : Nat → Int64) (K : Nat → Nat → Int64) : Prop := mMap Ls A K ∧ (∀ n, n < 64 → mNode A W n (K (na + n))) ∧ (∀ n r, n < 64 → tl A W n r ≠ 0 → mRole A nm n r (tl A W n r) (K (tl A W n r)))
/-- the tape, in both; the reference may have let it go already, in the course of a call -/
def tpR (ux um : q_St) : Prop := ∃ n m, (m = n ∨ m = 0) ∧ n ≤ 1280 ∧ q_i ux 32 = nI n ∧ q_i um 27 = nI m ∧ ∀ i, i < n → ∃ b, b < 256 ∧ q_a ux 8 i = nI b ∧ q_a um 35 i = sB b
def whR (ux um : q_St) : Prop := q_i ux 0 = q_i um 28 ∧ ∃ w, w < 16 ∧ q_i um 28 = nI w
/-- data that isn't DIRTY is as it is KEPT -/
def NB (W : Nat) (A Ak : Nat → Nat → Nat) (dd : Nat → Bool) : Prop := ∀ n r, n < 64 → ((A 5 n = 1 ∧ r < 1068) ∨ A 5 n = 3) → tl A W n r ≠ 0 → dd (tl A W n r) = false → ∀ j, j < 64 → A 18 (64 * tl A W n r + j) = Ak 18 (64 * tl A W n r + j)
/-- while the power is on -/
def On (B T S C W Ls na hb : Nat) (D kv : Nat → Nat → Int64) (Ak : Nat → Nat → Nat) (ux um : q_St) : Prop := q_i ux 7 = 1 ∧ DH Ls D kv um ∧ ∃ K dd A nm, XS B T S C W Ls hb um D K dd ux ∧ MS Ls dd um ∧ cnt dd Ls ≤ 75 ∧ (∀ x, x < Ls → dd x = true → 80 ≤ x ∧ A 17 x = 1) ∧ RM Ls A nm (q_a um) (q_j um 0) ∧ TW B W Ls (na + 64) A nm ∧ RX W Ls na A nm K ∧ NB W A Ak dd
/-- always -/
def Al (B T S C W Ls na hb : Nat) (sm : Option Nat) (D kv : Nat → Nat → Int64) (Ak : Nat → Nat → Nat) (nk : Nat → Int64) (ux um : q_St) : Prop := VV B T S C W Ls hb sm D ux um ∧ DK Ls D kv ux um ∧ RM Ls Ak nk (fun k => q_a um (k + 14)) (q_j um 1) ∧ TW B W Ls (na + 64) Ak nk ∧ RX W Ls na Ak nk kv ∧ (∀ b, sm = some b → ∀ x, x < Ls → x / W = b → Ak 17 x = 0 ∧ 80 ≤ x) ∧ tpR ux um ∧ whR ux um
def Iv (B T S C W Ls na : Nat) (k : Nat) (ux um : q_St) : Prop := ∃ sm D kv Ak nk, Al B T S C W Ls na (300 * k) sm D kv Ak nk ux um ∧ (q_i ux 7 = 0 ∨ (sm = none ∧ On B T S C W Ls na (300 * k) D kv Ak ux um))
/-- between calls the tapes are of one length -/
def Iq (B T S C W Ls na : Nat) (k : Nat) (ux um : q_St) : Prop := Iv B T S C W Ls na k ux um ∧ q_i ux 32 = q_i um 27
