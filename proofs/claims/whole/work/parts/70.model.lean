/-! the model: its fields -/
theorem pm_sk : pu_sk 248 = some (.inr (9, [0, 251, 0, 0, 0, 0, 252, 253, 0, 254, 255, 0, 0, 0, 256, 0, 257, 0, 258, 259, 260, 261, 262, 263, 264, 265, 266, 267, 0, 0, 0, 0, 268, 269, 270, 271, 272, 273, 274, 0, 275, 0, 276, 0])) := by decide +kernel
theorem pm_s249 : pu_sk 249 = some (.inl (2, 60)) := by decide +kernel
theorem pm_s250 : pu_sk 250 = some (.inl (0, 32)) := by decide +kernel
theorem pm_s251 : pu_sk 251 = some (.inl (0, 32)) := by decide +kernel
theorem pm_s252 : pu_sk 252 = some (.inl (0, 32)) := by decide +kernel
theorem pm_s253 : pu_sk 253 = some (.inl (0, 32)) := by decide +kernel
theorem pm_s254 : pu_sk 254 = some (.inl (2, 80)) := by decide +kernel
theorem pm_s255 : pu_sk 255 = some (.inl (2, 80)) := by decide +kernel
theorem pm_s256 : pu_sk 256 = some (.inl (0, 8)) := by decide +kernel
theorem pm_s257 : pu_sk 257 = some (.inl (0, 8)) := by decide +kernel
theorem pm_s258 : pu_sk 258 = some (.inl (3, 8)) := by decide +kernel
theorem pm_s259 : pu_sk 259 = some (.inl (0, 2)) := by decide +kernel
theorem pm_s260 : pu_sk 260 = some (.inl (0, 20)) := by decide +kernel
theorem pm_s261 : pu_sk 261 = some (.inl (0, 20)) := by decide +kernel
theorem pm_s262 : pu_sk 262 = some (.inl (0, 20)) := by decide +kernel
theorem pm_s263 : pu_sk 263 = some (.inl (0, 20)) := by decide +kernel
theorem pm_s264 : pu_sk 264 = some (.inl (0, 20)) := by decide +kernel
theorem pm_s265 : pu_sk 265 = some (.inl (0, 20)) := by decide +kernel
theorem pm_s266 : pu_sk 266 = some (.inl (2, 1280)) := by decide +kernel
theorem pm_s267 : pu_sk 267 = some (.inl (0, 16)) := by decide +kernel
theorem pm_s268 : pu_sk 268 = some (.inl (0, 16)) := by decide +kernel
theorem pm_s269 : pu_sk 269 = some (.inl (0, 16)) := by decide +kernel
theorem pm_s270 : pu_sk 270 = some (.inl (0, 16)) := by decide +kernel
theorem pm_s271 : pu_sk 271 = some (.inl (0, 128)) := by decide +kernel
theorem pm_s272 : pu_sk 272 = some (.inl (3, 128)) := by decide +kernel
theorem pm_s273 : pu_sk 273 = some (.inl (0, 16)) := by decide +kernel
theorem pm_s274 : pu_sk 274 = some (.inl (2, 80)) := by decide +kernel
theorem pm_0 (σ : pu_S) : im_gI (pu_mk σ) 9 248 0 = some (σ.1 248 0) := pu_gI pm_sk rfl σ
theorem pm_p0 (σ : pu_S) (v : Int32) : im_pV (pu_mk σ) 9 248 0 (.int v) = some (pu_mk (pu_sI σ 248 0 v)) := pu_pI pm_sk rfl σ v
theorem pm_1 (σ : pu_S) : im_gR (pu_mk σ) 9 248 1 = some 249 := pu_gR pm_sk rfl σ
theorem pm_2 (σ : pu_S) : im_gI (pu_mk σ) 9 248 2 = some (σ.1 248 2) := pu_gI pm_sk rfl σ
theorem pm_p2 (σ : pu_S) (v : Int32) : im_pV (pu_mk σ) 9 248 2 (.int v) = some (pu_mk (pu_sI σ 248 2 v)) := pu_pI pm_sk rfl σ v
theorem pm_3 (σ : pu_S) : im_gI (pu_mk σ) 9 248 3 = some (σ.1 248 3) := pu_gI pm_sk rfl σ
theorem pm_p3 (σ : pu_S) (v : Int32) : im_pV (pu_mk σ) 9 248 3 (.int v) = some (pu_mk (pu_sI σ 248 3 v)) := pu_pI pm_sk rfl σ v
theorem pm_4 (σ : pu_S) : im_gI (pu_mk σ) 9 248 4 = some (σ.1 248 4) := pu_gI pm_sk rfl σ
theorem pm_p4 (σ : pu_S) (v : Int32) : im_pV (pu_mk σ) 9 248 4 (.int v) = some (pu_mk (pu_sI σ 248 4 v)) := pu_pI pm_sk rfl σ v
theorem pm_5 (σ : pu_S) : im_gI (pu_mk σ) 9 248 5 = some (σ.1 248 5) := pu_gI pm_sk rfl σ
theorem pm_p5 (σ : pu_S) (v : Int32) : im_pV (pu_mk σ) 9 248 5 (.int v) = some (pu_mk (pu_sI σ 248 5 v)) := pu_pI pm_sk rfl σ v
theorem pm_6 (σ : pu_S) : im_gR (pu_mk σ) 9 248 6 = some 250 := pu_gR pm_sk rfl σ
theorem pm_7 (σ : pu_S) : im_gR (pu_mk σ) 9 248 7 = some 251 := pu_gR pm_sk rfl σ
theorem pm_8 (σ : pu_S) : im_gI (pu_mk σ) 9 248 8 = some (σ.1 248 8) := pu_gI pm_sk rfl σ
theorem pm_p8 (σ : pu_S) (v : Int32) : im_pV (pu_mk σ) 9 248 8 (.int v) = some (pu_mk (pu_sI σ 248 8 v)) := pu_pI pm_sk rfl σ v
theorem pm_9 (σ : pu_S) : im_gR (pu_mk σ) 9 248 9 = some 252 := pu_gR pm_sk rfl σ
theorem pm_10 (σ : pu_S) : im_gR (pu_mk σ) 9 248 10 = some 253 := pu_gR pm_sk rfl σ
theorem pm_11 (σ : pu_S) : im_gI (pu_mk σ) 9 248 11 = some (σ.1 248 11) := pu_gI pm_sk rfl σ
theorem pm_p11 (σ : pu_S) (v : Int32) : im_pV (pu_mk σ) 9 248 11 (.int v) = some (pu_mk (pu_sI σ 248 11 v)) := pu_pI pm_sk rfl σ v
theorem pm_12 (σ : pu_S) : im_gI (pu_mk σ) 9 248 12 = some (σ.1 248 12) := pu_gI pm_sk rfl σ
theorem pm_p12 (σ : pu_S) (v : Int32) : im_pV (pu_mk σ) 9 248 12 (.int v) = some (pu_mk (pu_sI σ 248 12 v)) := pu_pI pm_sk rfl σ v
theorem pm_13 (σ : pu_S) : im_gI (pu_mk σ) 9 248 13 = some (σ.1 248 13) := pu_gI pm_sk rfl σ
theorem pm_p13 (σ : pu_S) (v : Int32) : im_pV (pu_mk σ) 9 248 13 (.int v) = some (pu_mk (pu_sI σ 248 13 v)) := pu_pI pm_sk rfl σ v
theorem pm_14 (σ : pu_S) : im_gR (pu_mk σ) 9 248 14 = some 254 := pu_gR pm_sk rfl σ
theorem pm_15 (σ : pu_S) : im_gI (pu_mk σ) 9 248 15 = some (σ.1 248 15) := pu_gI pm_sk rfl σ
theorem pm_p15 (σ : pu_S) (v : Int32) : im_pV (pu_mk σ) 9 248 15 (.int v) = some (pu_mk (pu_sI σ 248 15 v)) := pu_pI pm_sk rfl σ v
theorem pm_16 (σ : pu_S) : im_gR (pu_mk σ) 9 248 16 = some 255 := pu_gR pm_sk rfl σ
theorem pm_17 (σ : pu_S) : im_gI (pu_mk σ) 9 248 17 = some (σ.1 248 17) := pu_gI pm_sk rfl σ
theorem pm_p17 (σ : pu_S) (v : Int32) : im_pV (pu_mk σ) 9 248 17 (.int v) = some (pu_mk (pu_sI σ 248 17 v)) := pu_pI pm_sk rfl σ v
theorem pm_18 (σ : pu_S) : im_gR (pu_mk σ) 9 248 18 = some 256 := pu_gR pm_sk rfl σ
theorem pm_19 (σ : pu_S) : im_gR (pu_mk σ) 9 248 19 = some 257 := pu_gR pm_sk rfl σ
theorem pm_20 (σ : pu_S) : im_gR (pu_mk σ) 9 248 20 = some 258 := pu_gR pm_sk rfl σ
theorem pm_21 (σ : pu_S) : im_gR (pu_mk σ) 9 248 21 = some 259 := pu_gR pm_sk rfl σ
theorem pm_22 (σ : pu_S) : im_gR (pu_mk σ) 9 248 22 = some 260 := pu_gR pm_sk rfl σ
theorem pm_23 (σ : pu_S) : im_gR (pu_mk σ) 9 248 23 = some 261 := pu_gR pm_sk rfl σ
theorem pm_24 (σ : pu_S) : im_gR (pu_mk σ) 9 248 24 = some 262 := pu_gR pm_sk rfl σ
theorem pm_25 (σ : pu_S) : im_gR (pu_mk σ) 9 248 25 = some 263 := pu_gR pm_sk rfl σ
theorem pm_26 (σ : pu_S) : im_gR (pu_mk σ) 9 248 26 = some 264 := pu_gR pm_sk rfl σ
theorem pm_27 (σ : pu_S) : im_gR (pu_mk σ) 9 248 27 = some 265 := pu_gR pm_sk rfl σ
theorem pm_28 (σ : pu_S) : im_gI (pu_mk σ) 9 248 28 = some (σ.1 248 28) := pu_gI pm_sk rfl σ
theorem pm_p28 (σ : pu_S) (v : Int32) : im_pV (pu_mk σ) 9 248 28 (.int v) = some (pu_mk (pu_sI σ 248 28 v)) := pu_pI pm_sk rfl σ v
theorem pm_29 (σ : pu_S) : im_gI (pu_mk σ) 9 248 29 = some (σ.1 248 29) := pu_gI pm_sk rfl σ
theorem pm_p29 (σ : pu_S) (v : Int32) : im_pV (pu_mk σ) 9 248 29 (.int v) = some (pu_mk (pu_sI σ 248 29 v)) := pu_pI pm_sk rfl σ v
theorem pm_30 (σ : pu_S) : im_gI (pu_mk σ) 9 248 30 = some (σ.1 248 30) := pu_gI pm_sk rfl σ
theorem pm_p30 (σ : pu_S) (v : Int32) : im_pV (pu_mk σ) 9 248 30 (.int v) = some (pu_mk (pu_sI σ 248 30 v)) := pu_pI pm_sk rfl σ v
theorem pm_31 (σ : pu_S) : im_gI (pu_mk σ) 9 248 31 = some (σ.1 248 31) := pu_gI pm_sk rfl σ
theorem pm_p31 (σ : pu_S) (v : Int32) : im_pV (pu_mk σ) 9 248 31 (.int v) = some (pu_mk (pu_sI σ 248 31 v)) := pu_pI pm_sk rfl σ v
theorem pm_32 (σ : pu_S) : im_gR (pu_mk σ) 9 248 32 = some 266 := pu_gR pm_sk rfl σ
theorem pm_33 (σ : pu_S) : im_gR (pu_mk σ) 9 248 33 = some 267 := pu_gR pm_sk rfl σ
theorem pm_34 (σ : pu_S) : im_gR (pu_mk σ) 9 248 34 = some 268 := pu_gR pm_sk rfl σ
theorem pm_35 (σ : pu_S) : im_gR (pu_mk σ) 9 248 35 = some 269 := pu_gR pm_sk rfl σ
theorem pm_36 (σ : pu_S) : im_gR (pu_mk σ) 9 248 36 = some 270 := pu_gR pm_sk rfl σ
theorem pm_37 (σ : pu_S) : im_gR (pu_mk σ) 9 248 37 = some 271 := pu_gR pm_sk rfl σ
theorem pm_38 (σ : pu_S) : im_gR (pu_mk σ) 9 248 38 = some 272 := pu_gR pm_sk rfl σ
theorem pm_39 (σ : pu_S) : im_gI (pu_mk σ) 9 248 39 = some (σ.1 248 39) := pu_gI pm_sk rfl σ
theorem pm_p39 (σ : pu_S) (v : Int32) : im_pV (pu_mk σ) 9 248 39 (.int v) = some (pu_mk (pu_sI σ 248 39 v)) := pu_pI pm_sk rfl σ v
theorem pm_40 (σ : pu_S) : im_gR (pu_mk σ) 9 248 40 = some 273 := pu_gR pm_sk rfl σ
theorem pm_41 (σ : pu_S) : im_gI (pu_mk σ) 9 248 41 = some (σ.1 248 41) := pu_gI pm_sk rfl σ
theorem pm_p41 (σ : pu_S) (v : Int32) : im_pV (pu_mk σ) 9 248 41 (.int v) = some (pu_mk (pu_sI σ 248 41 v)) := pu_pI pm_sk rfl σ v
theorem pm_42 (σ : pu_S) : im_gR (pu_mk σ) 9 248 42 = some 274 := pu_gR pm_sk rfl σ
theorem pm_43 (σ : pu_S) : im_gI (pu_mk σ) 9 248 43 = some (σ.1 248 43) := pu_gI pm_sk rfl σ
theorem pm_p43 (σ : pu_S) (v : Int32) : im_pV (pu_mk σ) 9 248 43 (.int v) = some (pu_mk (pu_sI σ 248 43 v)) := pu_pI pm_sk rfl σ v
theorem pm_i (σ : pu_S) : im_is (pu_mk σ) 9 248 = some () := pu_is pm_sk σ
theorem pm_l249 (σ : pu_S) {k : Nat} (hk : k < 60) : im_lI (pu_mk σ) 2 249 (nI k) = some (σ.2.2.1 249 k) := pu_lIn pm_s249 (by decide) σ hk (by decide)
theorem pm_t249 (σ : pu_S) (x : Int32) {k : Nat} (hk : k < 60) : im_sI (pu_mk σ) 2 249 (nI k) x = some (pu_mk (pu_sA σ 249 k x)) := pu_stIn pm_s249 (by decide) σ x hk (by decide)
theorem pm_l250 (σ : pu_S) {k : Nat} (hk : k < 32) : im_lI (pu_mk σ) 0 250 (nI k) = some (σ.2.2.1 250 k) := pu_lIn pm_s250 (by decide) σ hk (by decide)
theorem pm_t250 (σ : pu_S) (x : Int32) {k : Nat} (hk : k < 32) : im_sI (pu_mk σ) 0 250 (nI k) x = some (pu_mk (pu_sA σ 250 k x)) := pu_stIn pm_s250 (by decide) σ x hk (by decide)
theorem pm_l251 (σ : pu_S) {k : Nat} (hk : k < 32) : im_lI (pu_mk σ) 0 251 (nI k) = some (σ.2.2.1 251 k) := pu_lIn pm_s251 (by decide) σ hk (by decide)
theorem pm_t251 (σ : pu_S) (x : Int32) {k : Nat} (hk : k < 32) : im_sI (pu_mk σ) 0 251 (nI k) x = some (pu_mk (pu_sA σ 251 k x)) := pu_stIn pm_s251 (by decide) σ x hk (by decide)
theorem pm_l252 (σ : pu_S) {k : Nat} (hk : k < 32) : im_lI (pu_mk σ) 0 252 (nI k) = some (σ.2.2.1 252 k) := pu_lIn pm_s252 (by decide) σ hk (by decide)
theorem pm_t252 (σ : pu_S) (x : Int32) {k : Nat} (hk : k < 32) : im_sI (pu_mk σ) 0 252 (nI k) x = some (pu_mk (pu_sA σ 252 k x)) := pu_stIn pm_s252 (by decide) σ x hk (by decide)
theorem pm_l253 (σ : pu_S) {k : Nat} (hk : k < 32) : im_lI (pu_mk σ) 0 253 (nI k) = some (σ.2.2.1 253 k) := pu_lIn pm_s253 (by decide) σ hk (by decide)
theorem pm_t253 (σ : pu_S) (x : Int32) {k : Nat} (hk : k < 32) : im_sI (pu_mk σ) 0 253 (nI k) x = some (pu_mk (pu_sA σ 253 k x)) := pu_stIn pm_s253 (by decide) σ x hk (by decide)
theorem pm_l254 (σ : pu_S) {k : Nat} (hk : k < 80) : im_lI (pu_mk σ) 2 254 (nI k) = some (σ.2.2.1 254 k) := pu_lIn pm_s254 (by decide) σ hk (by decide)
theorem pm_t254 (σ : pu_S) (x : Int32) {k : Nat} (hk : k < 80) : im_sI (pu_mk σ) 2 254 (nI k) x = some (pu_mk (pu_sA σ 254 k x)) := pu_stIn pm_s254 (by decide) σ x hk (by decide)
theorem pm_l255 (σ : pu_S) {k : Nat} (hk : k < 80) : im_lI (pu_mk σ) 2 255 (nI k) = some (σ.2.2.1 255 k) := pu_lIn pm_s255 (by decide) σ hk (by decide)
theorem pm_t255 (σ : pu_S) (x : Int32) {k : Nat} (hk : k < 80) : im_sI (pu_mk σ) 2 255 (nI k) x = some (pu_mk (pu_sA σ 255 k x)) := pu_stIn pm_s255 (by decide) σ x hk (by decide)
theorem pm_l256 (σ : pu_S) {k : Nat} (hk : k < 8) : im_lI (pu_mk σ) 0 256 (nI k) = some (σ.2.2.1 256 k) := pu_lIn pm_s256 (by decide) σ hk (by decide)
theorem pm_t256 (σ : pu_S) (x : Int32) {k : Nat} (hk : k < 8) : im_sI (pu_mk σ) 0 256 (nI k) x = some (pu_mk (pu_sA σ 256 k x)) := pu_stIn pm_s256 (by decide) σ x hk (by decide)
theorem pm_l257 (σ : pu_S) {k : Nat} (hk : k < 8) : im_lI (pu_mk σ) 0 257 (nI k) = some (σ.2.2.1 257 k) := pu_lIn pm_s257 (by decide) σ hk (by decide)
theorem pm_t257 (σ : pu_S) (x : Int32) {k : Nat} (hk : k < 8) : im_sI (pu_mk σ) 0 257 (nI k) x = some (pu_mk (pu_sA σ 257 k x)) := pu_stIn pm_s257 (by decide) σ x hk (by decide)
theorem pm_l258 (σ : pu_S) {k : Nat} (hk : k < 8) : im_lI (pu_mk σ) 3 258 (nI k) = some (σ.2.2.1 258 k) := pu_lIn pm_s258 (by decide) σ hk (by decide)
theorem pm_t258 (σ : pu_S) (x : Int32) {k : Nat} (hk : k < 8) : im_sI (pu_mk σ) 3 258 (nI k) x = some (pu_mk (pu_sA σ 258 k x)) := pu_stIn pm_s258 (by decide) σ x hk (by decide)
theorem pm_l259 (σ : pu_S) {k : Nat} (hk : k < 2) : im_lI (pu_mk σ) 0 259 (nI k) = some (σ.2.2.1 259 k) := pu_lIn pm_s259 (by decide) σ hk (by decide)
theorem pm_t259 (σ : pu_S) (x : Int32) {k : Nat} (hk : k < 2) : im_sI (pu_mk σ) 0 259 (nI k) x = some (pu_mk (pu_sA σ 259 k x)) := pu_stIn pm_s259 (by decide) σ x hk (by decide)
theorem pm_l260 (σ : pu_S) {k : Nat} (hk : k < 20) : im_lI (pu_mk σ) 0 260 (nI k) = some (σ.2.2.1 260 k) := pu_lIn pm_s260 (by decide) σ hk (by decide)
theorem pm_t260 (σ : pu_S) (x : Int32) {k : Nat} (hk : k < 20) : im_sI (pu_mk σ) 0 260 (nI k) x = some (pu_mk (pu_sA σ 260 k x)) := pu_stIn pm_s260 (by decide) σ x hk (by decide)
theorem pm_l261 (σ : pu_S) {k : Nat} (hk : k < 20) : im_lI (pu_mk σ) 0 261 (nI k) = some (σ.2.2.1 261 k) := pu_lIn pm_s261 (by decide) σ hk (by decide)
theorem pm_t261 (σ : pu_S) (x : Int32) {k : Nat} (hk : k < 20) : im_sI (pu_mk σ) 0 261 (nI k) x = some (pu_mk (pu_sA σ 261 k x)) := pu_stIn pm_s261 (by decide) σ x hk (by decide)
theorem pm_l262 (σ : pu_S) {k : Nat} (hk : k < 20) : im_lI (pu_mk σ) 0 262 (nI k) = some (σ.2.2.1 262 k) := pu_lIn pm_s262 (by decide) σ hk (by decide)
theorem pm_t262 (σ : pu_S) (x : Int32) {k : Nat} (hk : k < 20) : im_sI (pu_mk σ) 0 262 (nI k) x = some (pu_mk (pu_sA σ 262 k x)) := pu_stIn pm_s262 (by decide) σ x hk (by decide)
theorem pm_l263 (σ : pu_S) {k : Nat} (hk : k < 20) : im_lI (pu_mk σ) 0 263 (nI k) = some (σ.2.2.1 263 k) := pu_lIn pm_s263 (by decide) σ hk (by decide)
theorem pm_t263 (σ : pu_S) (x : Int32) {k : Nat} (hk : k < 20) : im_sI (pu_mk σ) 0 263 (nI k) x = some (pu_mk (pu_sA σ 263 k x)) := pu_stIn pm_s263 (by decide) σ x hk (by decide)
theorem pm_l264 (σ : pu_S) {k : Nat} (hk : k < 20) : im_lI (pu_mk σ) 0 264 (nI k) = some (σ.2.2.1 264 k) := pu_lIn pm_s264 (by decide) σ hk (by decide)
theorem pm_t264 (σ : pu_S) (x : Int32) {k : Nat} (hk : k < 20) : im_sI (pu_mk σ) 0 264 (nI k) x = some (pu_mk (pu_sA σ 264 k x)) := pu_stIn pm_s264 (by decide) σ x hk (by decide)
theorem pm_l265 (σ : pu_S) {k : Nat} (hk : k < 20) : im_lI (pu_mk σ) 0 265 (nI k) = some (σ.2.2.1 265 k) := pu_lIn pm_s265 (by decide) σ hk (by decide)
theorem pm_t265 (σ : pu_S) (x : Int32) {k : Nat} (hk : k < 20) : im_sI (pu_mk σ) 0 265 (nI k) x = some (pu_mk (pu_sA σ 265 k x)) := pu_stIn pm_s265 (by decide) σ x hk (by decide)
theorem pm_l266 (σ : pu_S) {k : Nat} (hk : k < 1280) : im_lI (pu_mk σ) 2 266 (nI k) = some (σ.2.2.1 266 k) := pu_lIn pm_s266 (by decide) σ hk (by decide)
theorem pm_t266 (σ : pu_S) (x : Int32) {k : Nat} (hk : k < 1280) : im_sI (pu_mk σ) 2 266 (nI k) x = some (pu_mk (pu_sA σ 266 k x)) := pu_stIn pm_s266 (by decide) σ x hk (by decide)
theorem pm_l267 (σ : pu_S) {k : Nat} (hk : k < 16) : im_lI (pu_mk σ) 0 267 (nI k) = some (σ.2.2.1 267 k) := pu_lIn pm_s267 (by decide) σ hk (by decide)
theorem pm_t267 (σ : pu_S) (x : Int32) {k : Nat} (hk : k < 16) : im_sI (pu_mk σ) 0 267 (nI k) x = some (pu_mk (pu_sA σ 267 k x)) := pu_stIn pm_s267 (by decide) σ x hk (by decide)
theorem pm_l268 (σ : pu_S) {k : Nat} (hk : k < 16) : im_lI (pu_mk σ) 0 268 (nI k) = some (σ.2.2.1 268 k) := pu_lIn pm_s268 (by decide) σ hk (by decide)
theorem pm_t268 (σ : pu_S) (x : Int32) {k : Nat} (hk : k < 16) : im_sI (pu_mk σ) 0 268 (nI k) x = some (pu_mk (pu_sA σ 268 k x)) := pu_stIn pm_s268 (by decide) σ x hk (by decide)
theorem pm_l269 (σ : pu_S) {k : Nat} (hk : k < 16) : im_lI (pu_mk σ) 0 269 (nI k) = some (σ.2.2.1 269 k) := pu_lIn pm_s269 (by decide) σ hk (by decide)
theorem pm_t269 (σ : pu_S) (x : Int32) {k : Nat} (hk : k < 16) : im_sI (pu_mk σ) 0 269 (nI k) x = some (pu_mk (pu_sA σ 269 k x)) := pu_stIn pm_s269 (by decide) σ x hk (by decide)
theorem pm_l270 (σ : pu_S) {k : Nat} (hk : k < 16) : im_lI (pu_mk σ) 0 270 (nI k) = some (σ.2.2.1 270 k) := pu_lIn pm_s270 (by decide) σ hk (by decide)
theorem pm_t270 (σ : pu_S) (x : Int32) {k : Nat} (hk : k < 16) : im_sI (pu_mk σ) 0 270 (nI k) x = some (pu_mk (pu_sA σ 270 k x)) := pu_stIn pm_s270 (by decide) σ x hk (by decide)
theorem pm_l271 (σ : pu_S) {k : Nat} (hk : k < 128) : im_lI (pu_mk σ) 0 271 (nI k) = some (σ.2.2.1 271 k) := pu_lIn pm_s271 (by decide) σ hk (by decide)
theorem pm_t271 (σ : pu_S) (x : Int32) {k : Nat} (hk : k < 128) : im_sI (pu_mk σ) 0 271 (nI k) x = some (pu_mk (pu_sA σ 271 k x)) := pu_stIn pm_s271 (by decide) σ x hk (by decide)
theorem pm_l272 (σ : pu_S) {k : Nat} (hk : k < 128) : im_lI (pu_mk σ) 3 272 (nI k) = some (σ.2.2.1 272 k) := pu_lIn pm_s272 (by decide) σ hk (by decide)
theorem pm_t272 (σ : pu_S) (x : Int32) {k : Nat} (hk : k < 128) : im_sI (pu_mk σ) 3 272 (nI k) x = some (pu_mk (pu_sA σ 272 k x)) := pu_stIn pm_s272 (by decide) σ x hk (by decide)
theorem pm_l273 (σ : pu_S) {k : Nat} (hk : k < 16) : im_lI (pu_mk σ) 0 273 (nI k) = some (σ.2.2.1 273 k) := pu_lIn pm_s273 (by decide) σ hk (by decide)
theorem pm_t273 (σ : pu_S) (x : Int32) {k : Nat} (hk : k < 16) : im_sI (pu_mk σ) 0 273 (nI k) x = some (pu_mk (pu_sA σ 273 k x)) := pu_stIn pm_s273 (by decide) σ x hk (by decide)
theorem pm_l274 (σ : pu_S) {k : Nat} (hk : k < 80) : im_lI (pu_mk σ) 2 274 (nI k) = some (σ.2.2.1 274 k) := pu_lIn pm_s274 (by decide) σ hk (by decide)
theorem pm_t274 (σ : pu_S) (x : Int32) {k : Nat} (hk : k < 80) : im_sI (pu_mk σ) 2 274 (nI k) x = some (pu_mk (pu_sA σ 274 k x)) := pu_stIn pm_s274 (by decide) σ x hk (by decide)
/-! what stays: fields of the model outside some, cells outside some -/
def pm_fr (S T : Nat → Prop) (σ τ : pu_S) : Prop := (∀ h, ¬ S h → ¬ h = 248 → ∀ k, τ.1 h k = σ.1 h k ∧ τ.2.1 h k = σ.2.1 h k ∧ τ.2.2.1 h k = σ.2.2.1 h k ∧ τ.2.2.2 h k = σ.2.2.2 h k) ∧ ∀ k, ¬ T k → τ.1 248 k = σ.1 248 k
theorem pm_fr.rf {S T : Nat → Prop} {σ : pu_S} : pm_fr S T σ σ := ⟨fun _ _ _ _ => ⟨rfl, rfl, rfl, rfl⟩, fun _ _ => rfl⟩
theorem pm_fr.tr {S T : Nat → Prop} {σ τ υ : pu_S} (h1 : pm_fr S T σ τ) (h2 : pm_fr S T τ υ) : pm_fr S T σ υ := ⟨fun h hS h0 k => by
  obtain ⟨a, b, c, d⟩ := h1.1 h hS h0 k
  obtain ⟨a', b', c', d'⟩ := h2.1 h hS h0 k
  exact ⟨a'.trans a, b'.trans b, c'.trans c, d'.trans d⟩, fun k hk => (h2.2 k hk).trans (h1.2 k hk)⟩
theorem pm_fr.mono {S T S' T' : Nat → Prop} {σ τ : pu_S} (h1 : pm_fr S T σ τ) (h : ∀ k, S k → S' k) (h' : ∀ k, T k → T' k) : pm_fr S' T' σ τ := ⟨fun x hx h0 k => h1.1 x (fun q => hx (h x q)) h0 k, fun k hk => h1.2 k (fun q => hk (h' k q))⟩
theorem pm_fr.fr {S T : Nat → Prop} {σ τ : pu_S} (h1 : pm_fr S T σ τ) : pu_fr (fun x => x = 248 ∨ S x) σ τ := fun h hh k => h1.1 h (fun q => hh (Or.inr q)) (fun q => hh (Or.inl q)) k
theorem pm_fr.sI {S T : Nat → Prop} {σ : pu_S} {k : Nat} {v : Int32} (hT : T k) : pm_fr S T σ (pu_sI σ 248 k v) := ⟨fun x _ h0 j => by simp [pu_sI, h0], fun j hj => by
  have : ¬ j = k := fun q => hj (q ▸ hT)
  simp [pu_sI, this]⟩
theorem pm_fr.sA {S T : Nat → Prop} {σ : pu_S} {h k : Nat} {v : Int32} (hS : S h) : pm_fr S T σ (pu_sA σ h k v) := ⟨fun x hx _ j => by
  have : ¬ x = h := fun q => hx (q ▸ hS)
  simp [pu_sA, this], fun j hj => rfl⟩
/-! what is typed -/
def pm_ty (σ : pu_S) (ty : List Nat) : Prop := σ.1 248 0 = nI ty.length ∧ (∀ i, i < ty.length → σ.2.2.1 249 i = nI (ty.getD i 0)) ∧ ty.length ≤ 60 ∧ ∀ c ∈ ty, c < 128
theorem pm_ty.fr {S T : Nat → Prop} {σ τ : pu_S} {ty : List Nat} (hp : pm_ty σ ty) (hf : pm_fr S T σ τ) (h1 : ¬ S 249) (h2 : ¬ T 0) : pm_ty τ ty :=
  ⟨(hf.2 0 h2).trans hp.1, fun i hi => (hf.1 249 h1 (by decide) i).2.2.1.trans (hp.2.1 i hi), hp.2.2⟩
theorem pm_tylt {ty : List Nat} (hl : ∀ c ∈ ty, c < 128) (i : Nat) : ty.getD i 0 < 128 := by
  rw [List.getD_eq_getElem?_getD]
  by_cases hi : i < ty.length
  · have := hl ty[i] (List.getElem_mem hi)
    simpa [hi] using this
  · simp [hi]
section MTY
variable {F : Nat} {σ : pu_S} {ty : List Nat}
theorem pm_at (hp : pm_ty σ ty) {k : Nat} (hk : k < ty.length) : im_lI (pu_mk σ) 2 249 (nI k) = some (nI (ty.getD k 0)) := by
  have := hp.2.2.1
  rw [pm_l249 σ (by omega), hp.2.1 k hk]
theorem pm_digit {c : Nat} (hc : c < 65536) (m : Nat) (w : im_W) : sh_Model_digit F m (nI c) w = some (pb_b (pb_isD c), w) := by
  have h1 : nI c < (48 : Int32) ↔ c < 48 := nI_ltI (b := 48) (by omega) (by decide)
  have h2 : (57 : Int32) < nI c ↔ 57 < c := nI_ltI (a := 57) (by decide) (by omega)
  unfold sh_Model_digit sh_Model_digit_16 sh_Model_digit_17
  by_cases a : c < 48
  · have : pb_isD c = false := by simp [pb_isD]; omega
    rw [if_pos (h1.mpr a), pb_rz0, this]; rfl
  · rw [if_neg (fun q => a (h1.mp q))]
    by_cases b : 57 < c
    · have : pb_isD c = false := by simp [pb_isD]; omega
      rw [if_pos (h2.mpr b), pb_rz0, this]; rfl
    · have : pb_isD c = true := by simp [pb_isD]; omega
      rw [if_neg (fun q => b (h2.mp q)), pb_rz1, this]; rfl
theorem pm_small {c : Nat} (hc : c < 65000) (m : Nat) (w : im_W) : sh_Model_small F m (nI c) w = some (nI (pt_low c), w) := by
  have h1 : nI c < (65 : Int32) ↔ c < 65 := nI_ltI (b := 65) (by omega) (by decide)
  have h2 : (90 : Int32) < nI c ↔ 90 < c := nI_ltI (a := 90) (by decide) (by omega)
  unfold sh_Model_small sh_Model_small_20 sh_Model_small_21
  by_cases a : c < 65
  · have : pt_low c = c := by unfold pt_low; rw [if_neg (by omega)]
    rw [if_pos (h1.mpr a), pb_rc (by omega), this]
  · rw [if_neg (fun q => a (h1.mp q))]
    by_cases b : 90 < c
    · have : pt_low c = c := by unfold pt_low; rw [if_neg (by omega)]
      rw [if_pos (h2.mpr b), pb_rc (by omega), this]
    · have : pt_low c = c + 32 := by unfold pt_low; rw [if_pos (by omega)]
      have e : nI c + (32 : Int32) = nI (c + 32) := nI_add c 32
      rw [if_neg (fun q => b (h2.mp q)), e, pn_i2c (by omega), pb_rc (by omega), this]
theorem pm_isL : ∀ c, c < 128 → pb_isL c = decide (97 ≤ pt_low c ∧ pt_low c ≤ 122) := by decide +kernel
theorem pm_low_lt {c : Nat} (hc : c < 128) : pt_low c < 128 := by
  unfold pt_low
  split <;> omega
theorem pm_letter {c : Nat} (hc : c < 128) (σ : pu_S) : sh_Model_letter F 248 (nI c) (pu_mk σ) = some (pb_b (pb_isL c), pu_mk σ) := by
  have hl := pm_low_lt hc
  have h1 : nI (pt_low c) < (97 : Int32) ↔ pt_low c < 97 := nI_ltI (b := 97) (by omega) (by decide)
  have h2 : (122 : Int32) < nI (pt_low c) ↔ 122 < pt_low c := nI_ltI (a := 122) (by decide) (by omega)
  unfold sh_Model_letter sh_Model_letter_24 sh_Model_letter_25
  rw [pm_i, Option.bind_some, pm_small (by omega), im_b2_s]
  have key := pm_isL c hc
  by_cases a : pt_low c < 97
  · have : pb_isL c = false := by rw [key]; simp; omega
    rw [if_pos (h1.mpr a), pb_rz0, this]; rfl
  · rw [if_neg (fun q => a (h1.mp q)), pm_i, Option.bind_some, pm_small (by omega), im_b2_s]
    by_cases b : 122 < pt_low c
    · have : pb_isL c = false := by rw [key]; simp; omega
      rw [if_pos (h2.mpr b), pb_rz0, this]; rfl
    · have : pb_isL c = true := by rw [key]; simp; omega
      rw [if_neg (fun q => b (h2.mp q)), pb_rz1, this]; rfl
end MTY
