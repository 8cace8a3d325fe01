/-! ===== all calls, with the tapes of one length; what was left to prove ===== -/
theorem P_as {B T S C W Ls na : Nat} {L : Nat → Nat} {N : Nat} (h : st_as (Iv B T S C W Ls na) L N) : st_as (Iq B T S C W Ls na) L N := by
  intro k ux um x0 hk hi
  obtain ⟨r, vx, vm, a, b, c⟩ := h k ux um x0 hk hi.1
  exact ⟨r, vx, vm, a, b, c, ((fr_X10_as a).1 32 (by decide)).trans (hi.2.trans ((fr_X11_as b).1 27 (by decide)).symm)⟩
theorem P_make {B T S C W Ls na : Nat} {L : Nat → Nat} {N : Nat} (h : st_make (Iv B T S C W Ls na) L N) : st_make (Iq B T S C W Ls na) L N := by
  intro k ux um x0 x1 hk hi
  obtain ⟨r, vx, vm, a, b, c⟩ := h k ux um x0 x1 hk hi.1
  exact ⟨r, vx, vm, a, b, c, ((fr_X10_make a).1 32 (by decide)).trans (hi.2.trans ((fr_X11_make b).1 27 (by decide)).symm)⟩
theorem P_dir {B T S C W Ls na : Nat} {L : Nat → Nat} {N : Nat} (h : st_dir (Iv B T S C W Ls na) L N) : st_dir (Iq B T S C W Ls na) L N := by
  intro k ux um x0 x1 hk hi
  obtain ⟨r, vx, vm, a, b, c⟩ := h k ux um x0 x1 hk hi.1
  exact ⟨r, vx, vm, a, b, c, ((fr_X10_dir a).1 32 (by decide)).trans (hi.2.trans ((fr_X11_dir b).1 27 (by decide)).symm)⟩
theorem P_link {B T S C W Ls na : Nat} {L : Nat → Nat} {N : Nat} (h : st_link (Iv B T S C W Ls na) L N) : st_link (Iq B T S C W Ls na) L N := by
  intro k ux um x0 x1 x2 hk hi
  obtain ⟨r, vx, vm, a, b, c⟩ := h k ux um x0 x1 x2 hk hi.1
  exact ⟨r, vx, vm, a, b, c, ((fr_X10_link a).1 32 (by decide)).trans (hi.2.trans ((fr_X11_link b).1 27 (by decide)).symm)⟩
theorem P_cut {B T S C W Ls na : Nat} {L : Nat → Nat} {N : Nat} (h : st_cut (Iv B T S C W Ls na) L N) : st_cut (Iq B T S C W Ls na) L N := by
  intro k ux um x0 x1 hk hi
  obtain ⟨r, vx, vm, a, b, c⟩ := h k ux um x0 x1 hk hi.1
  exact ⟨r, vx, vm, a, b, c, ((fr_X10_cut a).1 32 (by decide)).trans (hi.2.trans ((fr_X11_cut b).1 27 (by decide)).symm)⟩
theorem P_drop {B T S C W Ls na : Nat} {L : Nat → Nat} {N : Nat} (h : st_drop (Iv B T S C W Ls na) L N) : st_drop (Iq B T S C W Ls na) L N := by
  intro k ux um x0 x1 hk hi
  obtain ⟨r, vx, vm, a, b, c⟩ := h k ux um x0 x1 hk hi.1
  exact ⟨r, vx, vm, a, b, c, ((fr_X10_drop a).1 32 (by decide)).trans (hi.2.trans ((fr_X11_drop b).1 27 (by decide)).symm)⟩
theorem P_rename {B T S C W Ls na : Nat} {L : Nat → Nat} {N : Nat} (h : st_rename (Iv B T S C W Ls na) L N) : st_rename (Iq B T S C W Ls na) L N := by
  intro k ux um x0 x1 x2 x3 hk hi
  obtain ⟨r, vx, vm, a, b, c⟩ := h k ux um x0 x1 x2 x3 hk hi.1
  exact ⟨r, vx, vm, a, b, c, ((fr_X10_rename a).1 32 (by decide)).trans (hi.2.trans ((fr_X11_rename b).1 27 (by decide)).symm)⟩
theorem P_find {B T S C W Ls na : Nat} {L : Nat → Nat} {N : Nat} (h : st_find (Iv B T S C W Ls na) L N) : st_find (Iq B T S C W Ls na) L N := by
  intro k ux um x0 x1 hk hi
  obtain ⟨r, vx, vm, a, b, c⟩ := h k ux um x0 x1 hk hi.1
  exact ⟨r, vx, vm, a, b, c, ((fr_X10_find a).1 32 (by decide)).trans (hi.2.trans ((fr_X11_find b).1 27 (by decide)).symm)⟩
theorem P_entry {B T S C W Ls na : Nat} {L : Nat → Nat} {N : Nat} (h : st_entry (Iv B T S C W Ls na) L N) : st_entry (Iq B T S C W Ls na) L N := by
  intro k ux um x0 x1 hk hi
  obtain ⟨r, vx, vm, a, b, c⟩ := h k ux um x0 x1 hk hi.1
  exact ⟨r, vx, vm, a, b, c, ((fr_X10_entry a).1 32 (by decide)).trans (hi.2.trans ((fr_X11_entry b).1 27 (by decide)).symm)⟩
theorem P_name {B T S C W Ls na : Nat} {L : Nat → Nat} {N : Nat} (h : st_name (Iv B T S C W Ls na) L N) : st_name (Iq B T S C W Ls na) L N := by
  intro k ux um x0 x1 hk hi
  obtain ⟨r, vx, vm, a, b, c⟩ := h k ux um x0 x1 hk hi.1
  exact ⟨r, vx, vm, a, b, c, ((fr_X10_name a).1 32 (by decide)).trans (hi.2.trans ((fr_X11_name b).1 27 (by decide)).symm)⟩
theorem P_kind {B T S C W Ls na : Nat} {L : Nat → Nat} {N : Nat} (h : st_kind (Iv B T S C W Ls na) L N) : st_kind (Iq B T S C W Ls na) L N := by
  intro k ux um x0 hk hi
  obtain ⟨r, vx, vm, a, b, c⟩ := h k ux um x0 hk hi.1
  exact ⟨r, vx, vm, a, b, c, ((fr_X10_kind a).1 32 (by decide)).trans (hi.2.trans ((fr_X11_kind b).1 27 (by decide)).symm)⟩
theorem P_size {B T S C W Ls na : Nat} {L : Nat → Nat} {N : Nat} (h : st_size (Iv B T S C W Ls na) L N) : st_size (Iq B T S C W Ls na) L N := by
  intro k ux um x0 hk hi
  obtain ⟨r, vx, vm, a, b, c⟩ := h k ux um x0 hk hi.1
  exact ⟨r, vx, vm, a, b, c, ((fr_X10_size a).1 32 (by decide)).trans (hi.2.trans ((fr_X11_size b).1 27 (by decide)).symm)⟩
theorem P_mode {B T S C W Ls na : Nat} {L : Nat → Nat} {N : Nat} (h : st_mode (Iv B T S C W Ls na) L N) : st_mode (Iq B T S C W Ls na) L N := by
  intro k ux um x0 x1 hk hi
  obtain ⟨r, vx, vm, a, b, c⟩ := h k ux um x0 x1 hk hi.1
  exact ⟨r, vx, vm, a, b, c, ((fr_X10_mode a).1 32 (by decide)).trans (hi.2.trans ((fr_X11_mode b).1 27 (by decide)).symm)⟩
theorem P_give {B T S C W Ls na : Nat} {L : Nat → Nat} {N : Nat} (h : st_give (Iv B T S C W Ls na) L N) : st_give (Iq B T S C W Ls na) L N := by
  intro k ux um x0 x1 hk hi
  obtain ⟨r, vx, vm, a, b, c⟩ := h k ux um x0 x1 hk hi.1
  exact ⟨r, vx, vm, a, b, c, ((fr_X10_give a).1 32 (by decide)).trans (hi.2.trans ((fr_X11_give b).1 27 (by decide)).symm)⟩
theorem P_rights {B T S C W Ls na : Nat} {L : Nat → Nat} {N : Nat} (h : st_rights (Iv B T S C W Ls na) L N) : st_rights (Iq B T S C W Ls na) L N := by
  intro k ux um x0 x1 hk hi
  obtain ⟨r, vx, vm, a, b, c⟩ := h k ux um x0 x1 hk hi.1
  exact ⟨r, vx, vm, a, b, c, ((fr_X10_rights a).1 32 (by decide)).trans (hi.2.trans ((fr_X11_rights b).1 27 (by decide)).symm)⟩
theorem P_links {B T S C W Ls na : Nat} {L : Nat → Nat} {N : Nat} (h : st_links (Iv B T S C W Ls na) L N) : st_links (Iq B T S C W Ls na) L N := by
  intro k ux um x0 hk hi
  obtain ⟨r, vx, vm, a, b, c⟩ := h k ux um x0 hk hi.1
  exact ⟨r, vx, vm, a, b, c, ((fr_X10_links a).1 32 (by decide)).trans (hi.2.trans ((fr_X11_links b).1 27 (by decide)).symm)⟩
theorem P_parent {B T S C W Ls na : Nat} {L : Nat → Nat} {N : Nat} (h : st_parent (Iv B T S C W Ls na) L N) : st_parent (Iq B T S C W Ls na) L N := by
  intro k ux um x0 hk hi
  obtain ⟨r, vx, vm, a, b, c⟩ := h k ux um x0 hk hi.1
  exact ⟨r, vx, vm, a, b, c, ((fr_X10_parent a).1 32 (by decide)).trans (hi.2.trans ((fr_X11_parent b).1 27 (by decide)).symm)⟩
theorem P_block {B T S C W Ls na : Nat} {L : Nat → Nat} {N : Nat} (h : st_block (Iv B T S C W Ls na) L N) : st_block (Iq B T S C W Ls na) L N := by
  intro k ux um x0 x1 hk hi
  obtain ⟨r, vx, vm, a, b, c⟩ := h k ux um x0 x1 hk hi.1
  exact ⟨r, vx, vm, a, b, c, ((fr_X10_block a).1 32 (by decide)).trans (hi.2.trans ((fr_X11_block b).1 27 (by decide)).symm)⟩
theorem P_byteAt {B T S C W Ls na : Nat} {L : Nat → Nat} {N : Nat} (h : st_byteAt (Iv B T S C W Ls na) L N) : st_byteAt (Iq B T S C W Ls na) L N := by
  intro k ux um x0 x1 hk hi
  obtain ⟨r, vx, vm, a, b, c⟩ := h k ux um x0 x1 hk hi.1
  exact ⟨r, vx, vm, a, b, c, ((fr_X10_byteAt a).1 32 (by decide)).trans (hi.2.trans ((fr_X11_byteAt b).1 27 (by decide)).symm)⟩
theorem P_check {B T S C W Ls na : Nat} {L : Nat → Nat} {N : Nat} (h : st_check (Iv B T S C W Ls na) L N) : st_check (Iq B T S C W Ls na) L N := by
  intro k ux um hk hi
  obtain ⟨r, vx, vm, a, b, c⟩ := h k ux um hk hi.1
  exact ⟨r, vx, vm, a, b, c, ((fr_X10_check a).1 32 (by decide)).trans (hi.2.trans ((fr_X11_check b).1 27 (by decide)).symm)⟩
theorem P_scrub {B T S C W Ls na : Nat} {L : Nat → Nat} {N : Nat} (h : st_scrub (Iv B T S C W Ls na) L N) : st_scrub (Iq B T S C W Ls na) L N := by
  intro k ux um hk hi
  obtain ⟨r, vx, vm, a, b, c⟩ := h k ux um hk hi.1
  exact ⟨r, vx, vm, a, b, c, ((fr_X10_scrub a).1 32 (by decide)).trans (hi.2.trans ((fr_X11_scrub b).1 27 (by decide)).symm)⟩
theorem P_sync {B T S C W Ls na : Nat} {L : Nat → Nat} {N : Nat} (h : st_sync (Iv B T S C W Ls na) L N) : st_sync (Iq B T S C W Ls na) L N := by
  intro k ux um hk hi
  obtain ⟨r, vx, vm, a, b, c⟩ := h k ux um hk hi.1
  exact ⟨r, vx, vm, a, b, c, ((fr_X10_sync a).1 32 (by decide)).trans (hi.2.trans ((fr_X11_sync b).1 27 (by decide)).symm)⟩
theorem P_clean {B T S C W Ls na : Nat} {L : Nat → Nat} {N : Nat} (h : st_clean (Iv B T S C W Ls na) L N) : st_clean (Iq B T S C W Ls na) L N := by
  intro k ux um hk hi
  obtain ⟨r, vx, vm, a, b, c⟩ := h k ux um hk hi.1
  exact ⟨r, vx, vm, a, b, c, ((fr_X10_clean a).1 32 (by decide)).trans (hi.2.trans ((fr_X11_clean b).1 27 (by decide)).symm)⟩
theorem P_power {B T S C W Ls na : Nat} {L : Nat → Nat} {N : Nat} (h : st_power (Iv B T S C W Ls na) L N) : st_power (Iq B T S C W Ls na) L N := by
  intro k ux um x0 hk hi
  obtain ⟨r, vx, vm, a, b, c⟩ := h k ux um x0 hk hi.1
  exact ⟨r, vx, vm, a, b, c, ((fr_X10_power a).1 32 (by decide)).trans (hi.2.trans ((fr_X11_power b).1 27 (by decide)).symm)⟩
theorem P_restore {B T S C W Ls na : Nat} {L : Nat → Nat} {N : Nat} (h : st_restore (Iv B T S C W Ls na) L N) : st_restore (Iq B T S C W Ls na) L N := by
  intro k ux um hk hi
  obtain ⟨r, vx, vm, a, b, c⟩ := h k ux um hk hi.1
  exact ⟨r, vx, vm, a, b, c, ((fr_X10_restore a).1 32 (by decide)).trans (hi.2.trans ((fr_X11_restore b).1 27 (by decide)).symm)⟩
theorem P_where {B T S C W Ls na : Nat} {L : Nat → Nat} {N : Nat} (h : st_where (Iv B T S C W Ls na) L N) : st_where (Iq B T S C W Ls na) L N := by
  intro k ux um x0 hk hi
  obtain ⟨r, vx, vm, a, b, c⟩ := h k ux um x0 hk hi.1
  exact ⟨r, vx, vm, a, b, c, ((fr_X10_where a).1 32 (by decide)).trans (hi.2.trans ((fr_X11_where b).1 27 (by decide)).symm)⟩
theorem P_mark {B T S C W Ls na : Nat} {L : Nat → Nat} {N : Nat} (h : st_mark (Iv B T S C W Ls na) L N) : st_mark (Iq B T S C W Ls na) L N := by
  intro k ux um x0 hk hi
  obtain ⟨r, vx, vm, a, b, c⟩ := h k ux um x0 hk hi.1
  exact ⟨r, vx, vm, a, b, c, ((fr_X10_mark a).1 32 (by decide)).trans (hi.2.trans ((fr_X11_mark b).1 27 (by decide)).symm)⟩
theorem P_count {B T S C W Ls na : Nat} {L : Nat → Nat} {N : Nat} (h : st_count (Iv B T S C W Ls na) L N) : st_count (Iq B T S C W Ls na) L N := by
  intro k ux um x0 hk hi
  obtain ⟨r, vx, vm, a, b, c⟩ := h k ux um x0 hk hi.1
  exact ⟨r, vx, vm, a, b, c, ((fr_X10_count a).1 32 (by decide)).trans (hi.2.trans ((fr_X11_count b).1 27 (by decide)).symm)⟩
theorem all_pure : lq_Pure := by
  intro x1 x2 x3 x4
  obtain ⟨N, hN⟩ : ∃ N, 140000 ≤ N := ⟨140000, Nat.le_refl _⟩
  obtain ⟨B, hB1, hB2, b1, b2⟩ := clp (N := N) (lo := 4) (hi := 8) (by decide) (by decide) x1
  obtain ⟨T, hT1, hT2, t1, t2⟩ := clp (N := N) (lo := 8) (hi := 32) (by decide) (by decide) x2
  obtain ⟨S, hS1, hS2, s1, s2⟩ := clp (N := N) (lo := 1) (hi := 4) (by decide) (by decide) x3
  obtain ⟨C, hC1, hC2, c1, c2⟩ := clp (N := N) (lo := 64) (hi := 256) (by decide) (by decide) x4
  have g : Geo B T S C (8 * T) (B * (8 * T)) := ⟨⟨hB1, hB2⟩, ⟨hT1, hT2⟩, ⟨hS1, hS2⟩, ⟨hC1, hC2⟩, rfl, rfl⟩
  have hl := g.l
  have gl : gL B C (8 * T) (B * (8 * T)) (lx_q B T C) := ⟨rfl, rfl, rfl, rfl, rfl, rfl, rfl, rfl, rfl, rfl, rfl, rfl, rfl, rfl, rfl, rfl, rfl, rfl, rfl, rfl⟩
  obtain ⟨um1, i1, i2⟩ := m_init (B := B) (T := T) (S := S) (C := C) hN hB2 ⟨hT1, hT2⟩ b2 t2 s2 c2
  refine ⟨B, T, S, C, N, vp_updL (cF (80 + (B * (8 * T) + 511) / 512 + 64)) ((80 + (B * (8 * T) + 511) / 512) * 8) 4128770, lF (B * (8 * T)), um1, Iq B T S C (8 * T) (B * (8 * T)) (80 + (B * (8 * T) + 511) / 512), hl.2, hT2, hC2, hB2, b1, t1, s1, c1, g_fill rfl hl.2 (by omega), ?_, i1, Iq_0 g rfl rfl i2, ⟨p_feed gl (by omega), p_end, P_as (p_as), P_make (p_make g gl rfl (by omega)), P_dir (p_dir g gl rfl (by omega)), p_lay g gl rfl (by omega), p_point g gl rfl (by omega), P_link (p_link g gl rfl (by omega)), p_put g gl rfl (by omega), P_cut (p_cut g gl rfl (by omega)), P_drop (p_drop g gl rfl (by omega)), P_rename (p_rename g gl rfl (by omega)), P_find (p_find g gl rfl (by omega)), p_walk g gl rfl (by omega), P_entry (p_entry g gl rfl (by omega)), P_name (p_name g gl rfl (by omega)), P_kind (p_kind g gl rfl), P_size (p_size g gl rfl (by omega)), P_mode (p_mode g gl rfl (by omega)), P_give (p_give g gl rfl (by omega)), P_rights (p_rights g gl rfl), P_links (p_links g gl rfl), P_parent (p_parent g gl rfl), P_block (p_block g gl rfl), P_byteAt (p_byteAt g gl rfl), P_check (p_check g gl rfl (by omega)), P_scrub (p_scrub g gl rfl (by omega)), P_sync (p_sync g gl rfl (by omega)), P_clean (p_clean g gl (by omega)), P_power (p_power), P_restore (p_restore g gl rfl (by omega)), P_where (p_where g gl rfl), P_mark (p_mark g gl rfl), P_count (p_count g gl rfl (by omega))⟩, fun k ux um h => ⟨Iv_up h.1, h.2⟩⟩
  exact f_format (M := ((B * (8 * T) + 8 * T) + C) * 8) (Ls := B * (8 * T)) rfl (by omega) (by omega) (by omega) (by omega) (by omega) rfl (by omega) hl.2 rfl
