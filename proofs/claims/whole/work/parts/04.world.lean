/-- the cells of the class -/
def ax_W (a : Nat → Nat) (cI : Nat → ClassId) (L : Nat → Nat) (σ : q_St) : va_W := [
  (a 0, .inr (10, [.ref (a 1), .ref (a 2), .ref (a 3), .ref (a 4), .ref (a 5), .ref (a 6), .ref (a 7), .ref (a 8), .ref (a 10), .ref (a 11), .int (q_i σ 0)])),
  (a 1, .inr (2, [.int (q_i σ 1), .int (q_i σ 2), .int (q_i σ 3), .int (q_i σ 4), .int (q_i σ 5), .int (q_i σ 6), .ref (a 12), .ref (a 13), .int (q_i σ 7), .int (q_i σ 8), .int (q_i σ 9), .int (q_i σ 10), .int (q_i σ 11), .int (q_i σ 12), .int (q_i σ 13)])),
  (a 2, .inr (8, [.ref (a 1), .ref (a 14), .ref (a 15), .ref (a 16), .ref (a 17), .ref (a 18), .ref (a 9), .int (q_i σ 14), .int (q_i σ 15), .int (q_i σ 16), .int (q_i σ 17), .int (q_i σ 18), .int (q_i σ 19), .int (q_i σ 20), .int (q_i σ 21)])),
  (a 3, .inr (6, [.ref (a 1), .ref (a 2), .ref (a 19), .ref (a 20), .ref (a 21), .ref (a 22), .int (q_i σ 22), .int (q_i σ 23), .int (q_i σ 24)])),
  (a 4, .inr (5, [.ref (a 3), .int (q_i σ 25), .int (q_i σ 26), .int (q_i σ 27), .int (q_i σ 28), .int (q_i σ 29)])),
  (a 5, .inr (4, [.ref (a 3), .int (q_i σ 30)])),
  (a 6, .inr (3, [.ref (a 3), .ref (a 4), .ref (a 5), .ref (a 23), .ref (a 24)])),
  (a 7, .inr (0, [.ref (a 3), .ref (a 4), .ref (a 5), .int (q_i σ 31)])),
  (a 8, .inr (7, [.ref (a 25), .int (q_i σ 32)])),
  (a 9, .inr (7, [.ref (a 26), .int (q_i σ 33)])),
  (a 10, .inr (9, [.ref (a 3), .ref (a 5), .ref (a 6), .ref (a 8), .ref (a 27), .ref (a 28), .int (q_i σ 34), .int (q_i σ 35), .int (q_i σ 36), .int (q_i σ 37), .int (q_i σ 38), .int (q_i σ 39)])),
  (a 11, .inr (1, [.ref (a 1), .ref (a 3), .ref (a 4), .ref (a 5), .ref (a 29), .ref (a 30), .ref (a 31), .int (q_i σ 40)])),
  (a 12, .inl (cI 0, (L 0), .inr (.inl (q_j σ 0)))),
  (a 13, .inl (cI 1, (L 1), .inl (q_a σ 0))),
  (a 14, .inl (cI 2, (L 2), .inl (q_a σ 1))),
  (a 15, .inl (cI 3, (L 3), .inl (q_a σ 2))),
  (a 16, .inl (cI 4, (L 4), .inl (q_a σ 3))),
  (a 17, .inl (cI 5, (L 5), .inl (q_a σ 4))),
  (a 18, .inl (cI 6, (L 6), .inr (.inl (q_j σ 1)))),
  (a 19, .inl (cI 7, (L 7), .inr (.inl (q_j σ 2)))),
  (a 20, .inl (cI 8, (L 8), .inl (q_a σ 5))),
  (a 21, .inl (cI 9, (L 9), .inl (q_a σ 6))),
  (a 22, .inl (cI 10, (L 10), .inr (.inl (q_j σ 3)))),
  (a 23, .inl (cI 11, (L 11), .inr (.inl (q_j σ 4)))),
  (a 24, .inl (cI 12, (L 12), .inl (q_a σ 7))),
  (a 25, .inl (cI 13, (L 13), .inl (q_a σ 8))),
  (a 26, .inl (cI 14, (L 14), .inl (q_a σ 9))),
  (a 27, .inl (cI 15, (L 15), .inl (q_a σ 10))),
  (a 28, .inl (cI 16, (L 16), .inl (q_a σ 11))),
  (a 29, .inl (cI 17, (L 17), .inl (q_a σ 12))),
  (a 30, .inl (cI 18, (L 18), .inl (q_a σ 13))),
  (a 31, .inl (cI 19, (L 19), .inl (q_a σ 14)))]
def ax_T (cI : Nat → ClassId) : List (ClassId × FieldType) := [(cI 0, .long), (cI 1, .boolean), (cI 2, .int), (cI 3, .int), (cI 4, .int), (cI 5, .int), (cI 6, .long), (cI 7, .long), (cI 8, .boolean), (cI 9, .int), (cI 10, .long), (cI 11, .long), (cI 12, .int), (cI 13, .int), (cI 14, .int), (cI 15, .int), (cI 16, .int), (cI 17, .int), (cI 18, .int), (cI 19, .int)]
def ax_A (a : Nat → Nat) : Nat → Prop := fun q => ∃ k : Nat, k < 32 ∧ q = a k
/-- the cells of the reference -/
def am_W (a : Nat → Nat) (cI : Nat → ClassId) (σ : q_St) : va_W := [
  (a 0, .inr (11, [.int (q_i σ 0), .int (q_i σ 1), .int (q_i σ 2), .int (q_i σ 3), .int (q_i σ 4), .int (q_i σ 5), .int (q_i σ 6), .int (q_i σ 7), .int (q_i σ 8), .int (q_i σ 9), .int (q_i σ 10), .int (q_i σ 11), .int (q_i σ 12), .int (q_i σ 13), .int (q_i σ 14), .int (q_i σ 15), .int (q_i σ 16), .ref (a 1), .ref (a 2), .ref (a 3), .ref (a 4), .int (q_i σ 17), .int (q_i σ 18), .ref (a 5), .int (q_i σ 19), .int (q_i σ 20), .int (q_i σ 21), .int (q_i σ 22), .int (q_i σ 23), .int (q_i σ 24), .ref (a 6), .ref (a 7), .ref (a 8), .ref (a 9), .ref (a 10), .ref (a 11), .ref (a 12), .ref (a 13), .ref (a 14), .ref (a 15), .ref (a 16), .ref (a 17), .ref (a 18), .ref (a 19), .ref (a 20), .ref (a 21), .ref (a 22), .ref (a 23), .ref (a 24), .ref (a 25), .ref (a 26), .ref (a 27), .ref (a 28), .ref (a 29), .ref (a 30), .ref (a 31), .ref (a 32), .ref (a 33), .ref (a 34), .ref (a 35), .ref (a 36), .int (q_i σ 25), .ref (a 37), .int (q_i σ 26), .ref (a 38), .int (q_i σ 27), .int (q_i σ 28), .ref (a 39), .ref (a 40), .int (q_i σ 29), .int (q_i σ 30), .int (q_i σ 31)])),
  (a 1, .inl (cI 0, 2048, .inl (q_a σ 0))),
  (a 2, .inl (cI 1, 256, .inl (q_a σ 1))),
  (a 3, .inl (cI 2, 256, .inl (q_a σ 2))),
  (a 4, .inl (cI 3, 2048, .inl (q_a σ 3))),
  (a 5, .inl (cI 4, 8, .inl (q_a σ 4))),
  (a 6, .inl (cI 5, 64, .inl (q_a σ 5))),
  (a 7, .inl (cI 6, 64, .inl (q_a σ 6))),
  (a 8, .inl (cI 7, 64, .inl (q_a σ 7))),
  (a 9, .inl (cI 8, 64, .inl (q_a σ 8))),
  (a 10, .inl (cI 9, 68352, .inl (q_a σ 9))),
  (a 11, .inl (cI 10, 2176, .inl (q_a σ 10))),
  (a 12, .inl (cI 11, 64, .inl (q_a σ 11))),
  (a 13, .inl (cI 12, 64, .inl (q_a σ 12))),
  (a 14, .inl (cI 13, 768, .inl (q_a σ 13))),
  (a 15, .inl (cI 14, 3072, .inl (q_a σ 14))),
  (a 16, .inl (cI 15, 3072, .inr (.inl (q_j σ 0)))),
  (a 17, .inl (cI 16, 64, .inl (q_a σ 15))),
  (a 18, .inl (cI 17, 2560, .inl (q_a σ 16))),
  (a 19, .inl (cI 18, 2048, .inl (q_a σ 17))),
  (a 20, .inl (cI 19, 131072, .inl (q_a σ 18))),
  (a 21, .inl (cI 20, 64, .inl (q_a σ 19))),
  (a 22, .inl (cI 21, 64, .inl (q_a σ 20))),
  (a 23, .inl (cI 22, 64, .inl (q_a σ 21))),
  (a 24, .inl (cI 23, 64, .inl (q_a σ 22))),
  (a 25, .inl (cI 24, 68352, .inl (q_a σ 23))),
  (a 26, .inl (cI 25, 2176, .inl (q_a σ 24))),
  (a 27, .inl (cI 26, 64, .inl (q_a σ 25))),
  (a 28, .inl (cI 27, 64, .inl (q_a σ 26))),
  (a 29, .inl (cI 28, 768, .inl (q_a σ 27))),
  (a 30, .inl (cI 29, 3072, .inl (q_a σ 28))),
  (a 31, .inl (cI 30, 3072, .inr (.inl (q_j σ 1)))),
  (a 32, .inl (cI 31, 64, .inl (q_a σ 29))),
  (a 33, .inl (cI 32, 2560, .inl (q_a σ 30))),
  (a 34, .inl (cI 33, 2048, .inl (q_a σ 31))),
  (a 35, .inl (cI 34, 131072, .inl (q_a σ 32))),
  (a 36, .inl (cI 35, 2048, .inl (q_a σ 33))),
  (a 37, .inl (cI 36, 2048, .inl (q_a σ 34))),
  (a 38, .inl (cI 37, 1280, .inl (q_a σ 35))),
  (a 39, .inl (cI 38, 10, .inl (q_a σ 36))),
  (a 40, .inl (cI 39, 10, .inl (q_a σ 37)))]
def am_T (cI : Nat → ClassId) : List (ClassId × FieldType) := [(cI 0, .boolean), (cI 1, .boolean), (cI 2, .int), (cI 3, .int), (cI 4, .int), (cI 5, .int), (cI 6, .int), (cI 7, .int), (cI 8, .int), (cI 9, .int), (cI 10, .int), (cI 11, .int), (cI 12, .int), (cI 13, .int), (cI 14, .int), (cI 15, .long), (cI 16, .int), (cI 17, .byte), (cI 18, .boolean), (cI 19, .byte), (cI 20, .int), (cI 21, .int), (cI 22, .int), (cI 23, .int), (cI 24, .int), (cI 25, .int), (cI 26, .int), (cI 27, .int), (cI 28, .int), (cI 29, .int), (cI 30, .long), (cI 31, .int), (cI 32, .byte), (cI 33, .boolean), (cI 34, .byte), (cI 35, .boolean), (cI 36, .boolean), (cI 37, .byte), (cI 38, .int), (cI 39, .int)]
def am_A (a : Nat → Nat) : Nat → Prop := fun q => ∃ k : Nat, k < 41 ∧ q = a k
set_option maxRecDepth 20000 in
theorem inT_X0 : ∀ w ∈ u_ws RX0 TX0 4, w ∈ q_T := List.forall_mem_cons.mpr ⟨q_mt 301 (by decide +kernel) rfl, List.forall_mem_cons.mpr ⟨q_mt 303 (by decide +kernel) rfl, List.forall_mem_cons.mpr ⟨q_mt 305 (by decide +kernel) rfl, List.forall_mem_cons.mpr ⟨q_mt 307 (by decide +kernel) rfl, fun _ h => absurd h List.not_mem_nil⟩⟩⟩⟩
set_option maxRecDepth 20000 in
theorem inT_X1 : ∀ w ∈ u_ws RX1 TX1 8, w ∈ q_T := List.forall_mem_cons.mpr ⟨q_mt 367 (by decide +kernel) rfl, List.forall_mem_cons.mpr ⟨q_mt 369 (by decide +kernel) rfl, List.forall_mem_cons.mpr ⟨q_mt 371 (by decide +kernel) rfl, List.forall_mem_cons.mpr ⟨q_mt 373 (by decide +kernel) rfl, List.forall_mem_cons.mpr ⟨q_mt 375 (by decide +kernel) rfl, List.forall_mem_cons.mpr ⟨q_mt 377 (by decide +kernel) rfl, List.forall_mem_cons.mpr ⟨q_mt 379 (by decide +kernel) rfl, List.forall_mem_cons.mpr ⟨q_mt 381 (by decide +kernel) rfl, fun _ h => absurd h List.not_mem_nil⟩⟩⟩⟩⟩⟩⟩⟩
set_option maxRecDepth 20000 in
theorem inT_X2 : ∀ w ∈ u_ws RX2 TX2 15, w ∈ q_T := List.forall_mem_cons.mpr ⟨q_mt 75 (by decide +kernel) rfl, List.forall_mem_cons.mpr ⟨q_mt 77 (by decide +kernel) rfl, List.forall_mem_cons.mpr ⟨q_mt 79 (by decide +kernel) rfl, List.forall_mem_cons.mpr ⟨q_mt 81 (by decide +kernel) rfl, List.forall_mem_cons.mpr ⟨q_mt 83 (by decide +kernel) rfl, List.forall_mem_cons.mpr ⟨q_mt 85 (by decide +kernel) rfl, List.forall_mem_cons.mpr ⟨q_mt 87 (by decide +kernel) rfl, List.forall_mem_cons.mpr ⟨q_mt 89 (by decide +kernel) rfl, List.forall_mem_cons.mpr ⟨q_mt 91 (by decide +kernel) rfl, List.forall_mem_cons.mpr ⟨q_mt 93 (by decide +kernel) rfl, List.forall_mem_cons.mpr ⟨q_mt 95 (by decide +kernel) rfl, List.forall_mem_cons.mpr ⟨q_mt 97 (by decide +kernel) rfl, List.forall_mem_cons.mpr ⟨q_mt 99 (by decide +kernel) rfl, List.forall_mem_cons.mpr ⟨q_mt 101 (by decide +kernel) rfl, List.forall_mem_cons.mpr ⟨q_mt 103 (by decide +kernel) rfl, fun _ h => absurd h List.not_mem_nil⟩⟩⟩⟩⟩⟩⟩⟩⟩⟩⟩⟩⟩⟩⟩
set_option maxRecDepth 20000 in
theorem inT_X3 : ∀ w ∈ u_ws RX3 TX3 5, w ∈ q_T := List.forall_mem_cons.mpr ⟨q_mt 273 (by decide +kernel) rfl, List.forall_mem_cons.mpr ⟨q_mt 275 (by decide +kernel) rfl, List.forall_mem_cons.mpr ⟨q_mt 277 (by decide +kernel) rfl, List.forall_mem_cons.mpr ⟨q_mt 279 (by decide +kernel) rfl, List.forall_mem_cons.mpr ⟨q_mt 281 (by decide +kernel) rfl, fun _ h => absurd h List.not_mem_nil⟩⟩⟩⟩⟩
set_option maxRecDepth 20000 in
theorem inT_X4 : ∀ w ∈ u_ws RX4 TX4 2, w ∈ q_T := List.forall_mem_cons.mpr ⟨q_mt 257 (by decide +kernel) rfl, List.forall_mem_cons.mpr ⟨q_mt 259 (by decide +kernel) rfl, fun _ h => absurd h List.not_mem_nil⟩⟩
set_option maxRecDepth 20000 in
theorem inT_X5 : ∀ w ∈ u_ws RX5 TX5 6, w ∈ q_T := List.forall_mem_cons.mpr ⟨q_mt 236 (by decide +kernel) rfl, List.forall_mem_cons.mpr ⟨q_mt 238 (by decide +kernel) rfl, List.forall_mem_cons.mpr ⟨q_mt 240 (by decide +kernel) rfl, List.forall_mem_cons.mpr ⟨q_mt 242 (by decide +kernel) rfl, List.forall_mem_cons.mpr ⟨q_mt 244 (by decide +kernel) rfl, List.forall_mem_cons.mpr ⟨q_mt 246 (by decide +kernel) rfl, fun _ h => absurd h List.not_mem_nil⟩⟩⟩⟩⟩⟩
set_option maxRecDepth 20000 in
theorem inT_X6 : ∀ w ∈ u_ws RX6 TX6 9, w ∈ q_T := List.forall_mem_cons.mpr ⟨q_mt 202 (by decide +kernel) rfl, List.forall_mem_cons.mpr ⟨q_mt 204 (by decide +kernel) rfl, List.forall_mem_cons.mpr ⟨q_mt 206 (by decide +kernel) rfl, List.forall_mem_cons.mpr ⟨q_mt 208 (by decide +kernel) rfl, List.forall_mem_cons.mpr ⟨q_mt 210 (by decide +kernel) rfl, List.forall_mem_cons.mpr ⟨q_mt 212 (by decide +kernel) rfl, List.forall_mem_cons.mpr ⟨q_mt 214 (by decide +kernel) rfl, List.forall_mem_cons.mpr ⟨q_mt 216 (by decide +kernel) rfl, List.forall_mem_cons.mpr ⟨q_mt 218 (by decide +kernel) rfl, fun _ h => absurd h List.not_mem_nil⟩⟩⟩⟩⟩⟩⟩⟩⟩
set_option maxRecDepth 20000 in
theorem inT_X7 : ∀ w ∈ u_ws RX7 TX7 2, w ∈ q_T := List.forall_mem_cons.mpr ⟨q_mt 127 (by decide +kernel) rfl, List.forall_mem_cons.mpr ⟨q_mt 129 (by decide +kernel) rfl, fun _ h => absurd h List.not_mem_nil⟩⟩
set_option maxRecDepth 20000 in
theorem inT_X8 : ∀ w ∈ u_ws RX8 TX8 15, w ∈ q_T := List.forall_mem_cons.mpr ⟨q_mt 154 (by decide +kernel) rfl, List.forall_mem_cons.mpr ⟨q_mt 156 (by decide +kernel) rfl, List.forall_mem_cons.mpr ⟨q_mt 158 (by decide +kernel) rfl, List.forall_mem_cons.mpr ⟨q_mt 160 (by decide +kernel) rfl, List.forall_mem_cons.mpr ⟨q_mt 162 (by decide +kernel) rfl, List.forall_mem_cons.mpr ⟨q_mt 164 (by decide +kernel) rfl, List.forall_mem_cons.mpr ⟨q_mt 166 (by decide +kernel) rfl, List.forall_mem_cons.mpr ⟨q_mt 168 (by decide +kernel) rfl, List.forall_mem_cons.mpr ⟨q_mt 170 (by decide +kernel) rfl, List.forall_mem_cons.mpr ⟨q_mt 172 (by decide +kernel) rfl, List.forall_mem_cons.mpr ⟨q_mt 174 (by decide +kernel) rfl, List.forall_mem_cons.mpr ⟨q_mt 176 (by decide +kernel) rfl, List.forall_mem_cons.mpr ⟨q_mt 178 (by decide +kernel) rfl, List.forall_mem_cons.mpr ⟨q_mt 180 (by decide +kernel) rfl, List.forall_mem_cons.mpr ⟨q_mt 182 (by decide +kernel) rfl, fun _ h => absurd h List.not_mem_nil⟩⟩⟩⟩⟩⟩⟩⟩⟩⟩⟩⟩⟩⟩⟩
set_option maxRecDepth 20000 in
theorem inT_X9 : ∀ w ∈ u_ws RX9 TX9 12, w ∈ q_T := List.forall_mem_cons.mpr ⟨q_mt 328 (by decide +kernel) rfl, List.forall_mem_cons.mpr ⟨q_mt 330 (by decide +kernel) rfl, List.forall_mem_cons.mpr ⟨q_mt 332 (by decide +kernel) rfl, List.forall_mem_cons.mpr ⟨q_mt 334 (by decide +kernel) rfl, List.forall_mem_cons.mpr ⟨q_mt 336 (by decide +kernel) rfl, List.forall_mem_cons.mpr ⟨q_mt 338 (by decide +kernel) rfl, List.forall_mem_cons.mpr ⟨q_mt 340 (by decide +kernel) rfl, List.forall_mem_cons.mpr ⟨q_mt 342 (by decide +kernel) rfl, List.forall_mem_cons.mpr ⟨q_mt 344 (by decide +kernel) rfl, List.forall_mem_cons.mpr ⟨q_mt 346 (by decide +kernel) rfl, List.forall_mem_cons.mpr ⟨q_mt 348 (by decide +kernel) rfl, List.forall_mem_cons.mpr ⟨q_mt 350 (by decide +kernel) rfl, fun _ h => absurd h List.not_mem_nil⟩⟩⟩⟩⟩⟩⟩⟩⟩⟩⟩⟩
set_option maxRecDepth 20000 in
theorem inT_X10 : ∀ w ∈ u_ws RX10 TX10 11, w ∈ q_T := List.forall_mem_cons.mpr ⟨q_mt 395 (by decide +kernel) rfl, List.forall_mem_cons.mpr ⟨q_mt 397 (by decide +kernel) rfl, List.forall_mem_cons.mpr ⟨q_mt 399 (by decide +kernel) rfl, List.forall_mem_cons.mpr ⟨q_mt 401 (by decide +kernel) rfl, List.forall_mem_cons.mpr ⟨q_mt 403 (by decide +kernel) rfl, List.forall_mem_cons.mpr ⟨q_mt 405 (by decide +kernel) rfl, List.forall_mem_cons.mpr ⟨q_mt 407 (by decide +kernel) rfl, List.forall_mem_cons.mpr ⟨q_mt 409 (by decide +kernel) rfl, List.forall_mem_cons.mpr ⟨q_mt 411 (by decide +kernel) rfl, List.forall_mem_cons.mpr ⟨q_mt 413 (by decide +kernel) rfl, List.forall_mem_cons.mpr ⟨q_mt 415 (by decide +kernel) rfl, fun _ h => absurd h List.not_mem_nil⟩⟩⟩⟩⟩⟩⟩⟩⟩⟩⟩
set_option maxRecDepth 20000 in
theorem inT_X11 : ∀ w ∈ u_ws RX11 TX11 72, w ∈ q_T := List.forall_mem_cons.mpr ⟨q_mt 1229 (by decide +kernel) rfl, List.forall_mem_cons.mpr ⟨q_mt 1231 (by decide +kernel) rfl, List.forall_mem_cons.mpr ⟨q_mt 1233 (by decide +kernel) rfl, List.forall_mem_cons.mpr ⟨q_mt 1235 (by decide +kernel) rfl, List.forall_mem_cons.mpr ⟨q_mt 1237 (by decide +kernel) rfl, List.forall_mem_cons.mpr ⟨q_mt 1239 (by decide +kernel) rfl, List.forall_mem_cons.mpr ⟨q_mt 1241 (by decide +kernel) rfl, List.forall_mem_cons.mpr ⟨q_mt 1243 (by decide +kernel) rfl, List.forall_mem_cons.mpr ⟨q_mt 1245 (by decide +kernel) rfl, List.forall_mem_cons.mpr ⟨q_mt 1247 (by decide +kernel) rfl, List.forall_mem_cons.mpr ⟨q_mt 1249 (by decide +kernel) rfl, List.forall_mem_cons.mpr ⟨q_mt 1251 (by decide +kernel) rfl, List.forall_mem_cons.mpr ⟨q_mt 1253 (by decide +kernel) rfl, List.forall_mem_cons.mpr ⟨q_mt 1255 (by decide +kernel) rfl, List.forall_mem_cons.mpr ⟨q_mt 1257 (by decide +kernel) rfl, List.forall_mem_cons.mpr ⟨q_mt 1259 (by decide +kernel) rfl, List.forall_mem_cons.mpr ⟨q_mt 1261 (by decide +kernel) rfl, List.forall_mem_cons.mpr ⟨q_mt 1263 (by decide +kernel) rfl, List.forall_mem_cons.mpr ⟨q_mt 1265 (by decide +kernel) rfl, List.forall_mem_cons.mpr ⟨q_mt 1267 (by decide +kernel) rfl, List.forall_mem_cons.mpr ⟨q_mt 1269 (by decide +kernel) rfl, List.forall_mem_cons.mpr ⟨q_mt 1271 (by decide +kernel) rfl, List.forall_mem_cons.mpr ⟨q_mt 1273 (by decide +kernel) rfl, List.forall_mem_cons.mpr ⟨q_mt 1275 (by decide +kernel) rfl, List.forall_mem_cons.mpr ⟨q_mt 1277 (by decide +kernel) rfl, List.forall_mem_cons.mpr ⟨q_mt 1279 (by decide +kernel) rfl, List.forall_mem_cons.mpr ⟨q_mt 1281 (by decide +kernel) rfl, List.forall_mem_cons.mpr ⟨q_mt 1283 (by decide +kernel) rfl, List.forall_mem_cons.mpr ⟨q_mt 1285 (by decide +kernel) rfl, List.forall_mem_cons.mpr ⟨q_mt 1287 (by decide +kernel) rfl, List.forall_mem_cons.mpr ⟨q_mt 1289 (by decide +kernel) rfl, List.forall_mem_cons.mpr ⟨q_mt 1291 (by decide +kernel) rfl, List.forall_mem_cons.mpr ⟨q_mt 1293 (by decide +kernel) rfl, List.forall_mem_cons.mpr ⟨q_mt 1295 (by decide +kernel) rfl, List.forall_mem_cons.mpr ⟨q_mt 1297 (by decide +kernel) rfl, List.forall_mem_cons.mpr ⟨q_mt 1299 (by decide +kernel) rfl, List.forall_mem_cons.mpr ⟨q_mt 1301 (by decide +kernel) rfl, List.forall_mem_cons.mpr ⟨q_mt 1303 (by decide +kernel) rfl, List.forall_mem_cons.mpr ⟨q_mt 1305 (by decide +kernel) rfl, List.forall_mem_cons.mpr ⟨q_mt 1307 (by decide +kernel) rfl, List.forall_mem_cons.mpr ⟨q_mt 1309 (by decide +kernel) rfl, List.forall_mem_cons.mpr ⟨q_mt 1311 (by decide +kernel) rfl, List.forall_mem_cons.mpr ⟨q_mt 1313 (by decide +kernel) rfl, List.forall_mem_cons.mpr ⟨q_mt 1315 (by decide +kernel) rfl, List.forall_mem_cons.mpr ⟨q_mt 1317 (by decide +kernel) rfl, List.forall_mem_cons.mpr ⟨q_mt 1319 (by decide +kernel) rfl, List.forall_mem_cons.mpr ⟨q_mt 1321 (by decide +kernel) rfl, List.forall_mem_cons.mpr ⟨q_mt 1323 (by decide +kernel) rfl, List.forall_mem_cons.mpr ⟨q_mt 1325 (by decide +kernel) rfl, List.forall_mem_cons.mpr ⟨q_mt 1327 (by decide +kernel) rfl, List.forall_mem_cons.mpr ⟨q_mt 1329 (by decide +kernel) rfl, List.forall_mem_cons.mpr ⟨q_mt 1331 (by decide +kernel) rfl, List.forall_mem_cons.mpr ⟨q_mt 1333 (by decide +kernel) rfl, List.forall_mem_cons.mpr ⟨q_mt 1335 (by decide +kernel) rfl, List.forall_mem_cons.mpr ⟨q_mt 1337 (by decide +kernel) rfl, List.forall_mem_cons.mpr ⟨q_mt 1339 (by decide +kernel) rfl, List.forall_mem_cons.mpr ⟨q_mt 1341 (by decide +kernel) rfl, List.forall_mem_cons.mpr ⟨q_mt 1343 (by decide +kernel) rfl, List.forall_mem_cons.mpr ⟨q_mt 1345 (by decide +kernel) rfl, List.forall_mem_cons.mpr ⟨q_mt 1347 (by decide +kernel) rfl, List.forall_mem_cons.mpr ⟨q_mt 1349 (by decide +kernel) rfl, List.forall_mem_cons.mpr ⟨q_mt 1351 (by decide +kernel) rfl, List.forall_mem_cons.mpr ⟨q_mt 1353 (by decide +kernel) rfl, List.forall_mem_cons.mpr ⟨q_mt 1355 (by decide +kernel) rfl, List.forall_mem_cons.mpr ⟨q_mt 1357 (by decide +kernel) rfl, List.forall_mem_cons.mpr ⟨q_mt 1359 (by decide +kernel) rfl, List.forall_mem_cons.mpr ⟨q_mt 1361 (by decide +kernel) rfl, List.forall_mem_cons.mpr ⟨q_mt 1363 (by decide +kernel) rfl, List.forall_mem_cons.mpr ⟨q_mt 1365 (by decide +kernel) rfl, List.forall_mem_cons.mpr ⟨q_mt 1367 (by decide +kernel) rfl, List.forall_mem_cons.mpr ⟨q_mt 1369 (by decide +kernel) rfl, List.forall_mem_cons.mpr ⟨q_mt 1371 (by decide +kernel) rfl, fun _ h => absurd h List.not_mem_nil⟩⟩⟩⟩⟩⟩⟩⟩⟩⟩⟩⟩⟩⟩⟩⟩⟩⟩⟩⟩⟩⟩⟩⟩⟩⟩⟩⟩⟩⟩⟩⟩⟩⟩⟩⟩⟩⟩⟩⟩⟩⟩⟩⟩⟩⟩⟩⟩⟩⟩⟩⟩⟩⟩⟩⟩⟩⟩⟩⟩⟩⟩⟩⟩⟩⟩⟩⟩⟩⟩⟩⟩
