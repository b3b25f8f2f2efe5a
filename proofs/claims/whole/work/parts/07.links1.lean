theorem lx1 (j : Nat) {w : Cond} (h0 : tables_1_1[j]? = some w) : w ∈ lw_tbl := by
  have h : w ∈ tables_1_1 := List.mem_of_getElem? h0
  exact List.mem_append_right _ (List.mem_append_left _ h)
theorem gx1 (j : Nat) {w : Cond} (h0 : tables_1_1[j]? = some w) (g : goodWord w = true) : w ∈ Gw := List.mem_filter.mpr ⟨lx1 j h0, g⟩
theorem lx2 (j : Nat) {w : Cond} (h0 : tables_1_2[j]? = some w) : w ∈ lw_tbl := by
  have h : w ∈ tables_1_2 := List.mem_of_getElem? h0
  exact List.mem_append_right _ (List.mem_append_right _ (List.mem_append_left _ h))
theorem gx2 (j : Nat) {w : Cond} (h0 : tables_1_2[j]? = some w) (g : goodWord w = true) : w ∈ Gw := List.mem_filter.mpr ⟨lx2 j h0, g⟩
theorem lx3 (j : Nat) {w : Cond} (h0 : tables_1_3[j]? = some w) : w ∈ lw_tbl := by
  have h : w ∈ tables_1_3 := List.mem_of_getElem? h0
  exact List.mem_append_right _ (List.mem_append_right _ (List.mem_append_right _ (List.mem_append_left _ h)))
theorem gx3 (j : Nat) {w : Cond} (h0 : tables_1_3[j]? = some w) (g : goodWord w = true) : w ∈ Gw := List.mem_filter.mpr ⟨lx3 j h0, g⟩
theorem lx4 (j : Nat) {w : Cond} (h0 : tables_1_4[j]? = some w) : w ∈ lw_tbl := by
  have h : w ∈ tables_1_4 := List.mem_of_getElem? h0
  exact List.mem_append_right _ (List.mem_append_right _ (List.mem_append_right _ (List.mem_append_right _ (List.mem_append_left _ h))))
theorem gx4 (j : Nat) {w : Cond} (h0 : tables_1_4[j]? = some w) (g : goodWord w = true) : w ∈ Gw := List.mem_filter.mpr ⟨lx4 j h0, g⟩
theorem lx5 (j : Nat) {w : Cond} (h0 : tables_1_5[j]? = some w) : w ∈ lw_tbl := by
  have h : w ∈ tables_1_5 := List.mem_of_getElem? h0
  exact List.mem_append_right _ (List.mem_append_right _ (List.mem_append_right _ (List.mem_append_right _ (List.mem_append_right _ (List.mem_append_left _ h)))))
theorem gx5 (j : Nat) {w : Cond} (h0 : tables_1_5[j]? = some w) (g : goodWord w = true) : w ∈ Gw := List.mem_filter.mpr ⟨lx5 j h0, g⟩
theorem lx6 (j : Nat) {w : Cond} (h0 : tables_1_6[j]? = some w) : w ∈ lw_tbl := by
  have h : w ∈ tables_1_6 := List.mem_of_getElem? h0
  exact List.mem_append_right _ (List.mem_append_right _ (List.mem_append_right _ (List.mem_append_right _ (List.mem_append_right _ (List.mem_append_right _ (List.mem_append_left _ h))))))
theorem gx6 (j : Nat) {w : Cond} (h0 : tables_1_6[j]? = some w) (g : goodWord w = true) : w ∈ Gw := List.mem_filter.mpr ⟨lx6 j h0, g⟩
theorem lx7 (j : Nat) {w : Cond} (h0 : tables_1_7[j]? = some w) : w ∈ lw_tbl := by
  have h : w ∈ tables_1_7 := List.mem_of_getElem? h0
  exact List.mem_append_right _ (List.mem_append_right _ (List.mem_append_right _ (List.mem_append_right _ (List.mem_append_right _ (List.mem_append_right _ (List.mem_append_right _ (List.mem_append_left _ h)))))))
theorem gx7 (j : Nat) {w : Cond} (h0 : tables_1_7[j]? = some w) (g : goodWord w = true) : w ∈ Gw := List.mem_filter.mpr ⟨lx7 j h0, g⟩
theorem lx8 (j : Nat) {w : Cond} (h0 : tables_1_8[j]? = some w) : w ∈ lw_tbl := by
  have h : w ∈ tables_1_8 := List.mem_of_getElem? h0
  exact List.mem_append_right _ (List.mem_append_right _ (List.mem_append_right _ (List.mem_append_right _ (List.mem_append_right _ (List.mem_append_right _ (List.mem_append_right _ (List.mem_append_right _ (h))))))))
theorem gx8 (j : Nat) {w : Cond} (h0 : tables_1_8[j]? = some w) (g : goodWord w = true) : w ∈ Gw := List.mem_filter.mpr ⟨lx8 j h0, g⟩
theorem iX0 : ∀ w ∈ u_ws RX0 TX0 0, w ∈ Gw := fun _ h => absurd h List.not_mem_nil
theorem iX1 : ∀ w ∈ u_ws RX1 TX1 19, w ∈ Gw := by
  have h : u_ws RX1 TX1 19 = [345, 347, 349, 351, 353, 355, 357, 359, 361, 363, 365, 367, 369, 371, 373, 375, 377, 379, 381].filterMap (fun i => lw_tbl[i]?) := by decide +kernel
  have g : (u_ws RX1 TX1 19).all goodWord = true := by decide +kernel
  intro w hw
  have hg := List.all_eq_true.mp g w hw
  rw [h] at hw
  obtain ⟨j, -, hj⟩ := List.mem_filterMap.mp hw
  exact gw j hj hg
theorem iX2 : ∀ w ∈ u_ws RX2 TX2 0, w ∈ Gw := fun _ h => absurd h List.not_mem_nil
theorem iX3 : ∀ w ∈ u_ws RX3 TX3 0, w ∈ Gw := fun _ h => absurd h List.not_mem_nil
theorem iX4 : ∀ w ∈ u_ws RX4 TX4 0, w ∈ Gw := fun _ h => absurd h List.not_mem_nil
theorem iX5 : ∀ w ∈ u_ws RX5 TX5 9, w ∈ Gw := by
  have h : u_ws RX5 TX5 9 = [408, 410, 412, 414, 416, 418, 420, 422, 424].filterMap (fun i => lw_tbl[i]?) := by decide +kernel
  have g : (u_ws RX5 TX5 9).all goodWord = true := by decide +kernel
  intro w hw
  have hg := List.all_eq_true.mp g w hw
  rw [h] at hw
  obtain ⟨j, -, hj⟩ := List.mem_filterMap.mp hw
  exact gw j hj hg
theorem iX6 : ∀ w ∈ u_ws RX6 TX6 7, w ∈ Gw := by
  have h : u_ws RX6 TX6 7 = [205, 207, 209, 211, 213, 215, 217].filterMap (fun i => lw_tbl[i]?) := by decide +kernel
  have g : (u_ws RX6 TX6 7).all goodWord = true := by decide +kernel
  intro w hw
  have hg := List.all_eq_true.mp g w hw
  rw [h] at hw
  obtain ⟨j, -, hj⟩ := List.mem_filterMap.mp hw
  exact gw j hj hg
theorem iX7 : ∀ w ∈ u_ws RX7 TX7 0, w ∈ Gw := fun _ h => absurd h List.not_mem_nil
theorem iX8 : ∀ w ∈ u_ws RX8 TX8 5, w ∈ Gw := by
  have h : u_ws RX8 TX8 5 = [242, 244, 246, 248, 250].filterMap (fun i => lw_tbl[i]?) := by decide +kernel
  have g : (u_ws RX8 TX8 5).all goodWord = true := by decide +kernel
  intro w hw
  have hg := List.all_eq_true.mp g w hw
  rw [h] at hw
  obtain ⟨j, -, hj⟩ := List.mem_filterMap.mp hw
  exact gw j hj hg
theorem iX9 : ∀ w ∈ u_ws RX9 TX9 6, w ∈ Gw := by
  have h : u_ws RX9 TX9 6 = [173, 175, 177, 179, 181, 183].filterMap (fun i => lw_tbl[i]?) := by decide +kernel
  have g : (u_ws RX9 TX9 6).all goodWord = true := by decide +kernel
  intro w hw
  have hg := List.all_eq_true.mp g w hw
  rw [h] at hw
  obtain ⟨j, -, hj⟩ := List.mem_filterMap.mp hw
  exact gw j hj hg
theorem iX10 : ∀ w ∈ u_ws RX10 TX10 0, w ∈ Gw := fun _ h => absurd h List.not_mem_nil
theorem iX11 : ∀ w ∈ u_ws RX11 TX11 16, w ∈ Gw := by
  have h : u_ws RX11 TX11 16 = [444, 446, 448, 450, 452, 454, 456, 458, 460, 462, 464, 466, 468, 470, 472, 474].filterMap (fun i => lw_tbl[i]?) := by decide +kernel
  have g : (u_ws RX11 TX11 16).all goodWord = true := by decide +kernel
  intro w hw
  have hg := List.all_eq_true.mp g w hw
  rw [h] at hw
  obtain ⟨j, -, hj⟩ := List.mem_filterMap.mp hw
  exact gw j hj hg
theorem iX12 : ∀ w ∈ u_ws RX12 TX12 38, w ∈ Gw := by
  have h : u_ws RX12 TX12 38 = [1258, 1260, 1262, 1264, 1266, 1268, 1270, 1272, 1274, 1276, 1278, 1280, 1282, 1284, 1286, 1288, 1290, 1292, 1294, 1296, 1298, 1300, 1302, 1304, 1306, 1308, 1310, 1312, 1314, 1316, 1318, 1320, 1322, 1324, 1326, 1328, 1330, 1332].filterMap (fun i => lw_tbl[i]?) := by decide +kernel
  have g : (u_ws RX12 TX12 38).all goodWord = true := by decide +kernel
  intro w hw
  have hg := List.all_eq_true.mp g w hw
  rw [h] at hw
  obtain ⟨j, -, hj⟩ := List.mem_filterMap.mp hw
  exact gw j hj hg
theorem flX11_9 : FL RX11 9 11 3 := ⟨RX11, TX11, 16, rfl, by decide, rfl, iX11, Or.inl (gx2 61 rfl rfl)⟩
theorem flX11_16 : FL RX11 16 11 4 := ⟨RX11, TX11, 16, rfl, by decide, rfl, iX11, Or.inl (gx2 62 rfl rfl)⟩
theorem flX11_23 : FL RX11 23 11 5 := ⟨RX11, TX11, 16, rfl, by decide, rfl, iX11, Or.inl (gx2 63 rfl rfl)⟩
theorem flX11_30 : FL RX11 30 11 7 := ⟨RX11, TX11, 16, rfl, by decide, rfl, iX11, Or.inl (gx2 65 rfl rfl)⟩
theorem flX11_34 : FL RX11 34 11 8 := ⟨RX11, TX11, 16, rfl, by decide, rfl, iX11, Or.inl (gx2 66 rfl rfl)⟩
theorem flX11_38 : FL RX11 38 11 9 := ⟨RX11, TX11, 16, rfl, by decide, rfl, iX11, Or.inl (gx2 67 rfl rfl)⟩
theorem flX11_42 : FL RX11 42 11 10 := ⟨RX11, TX11, 16, rfl, by decide, rfl, iX11, Or.inl (gx2 68 rfl rfl)⟩
theorem flX11_45 : FL RX11 45 11 11 := ⟨RX11, TX11, 16, rfl, by decide, rfl, iX11, Or.inl (gx2 69 rfl rfl)⟩
theorem flX11_48 : FL RX11 48 11 12 := ⟨RX11, TX11, 16, rfl, by decide, rfl, iX11, Or.inl (gx2 70 rfl rfl)⟩
theorem flX11_51 : FL RX11 51 11 13 := ⟨RX11, TX11, 16, rfl, by decide, rfl, iX11, Or.inl (gx2 71 rfl rfl)⟩
theorem flX11_54 : FL RX11 54 11 14 := ⟨RX11, TX11, 16, rfl, by decide, rfl, iX11, Or.inl (gx2 72 rfl rfl)⟩
theorem flX11_57 : FL RX11 57 11 15 := ⟨RX11, TX11, 16, rfl, by decide, rfl, iX11, Or.inl (gx2 73 rfl rfl)⟩
theorem flX11_83 : FL RX11 83 11 0 := ⟨RX11, TX11, 16, rfl, by decide, rfl, iX11, Or.inl (gx2 58 rfl rfl)⟩
theorem flX11_87 : FL RX11 87 11 1 := ⟨RX11, TX11, 16, rfl, by decide, rfl, iX11, Or.inl (gx2 59 rfl rfl)⟩
theorem flX11_90 : FL RX11 90 11 2 := ⟨RX11, TX11, 16, rfl, by decide, rfl, iX11, Or.inl (gx2 60 rfl rfl)⟩
theorem flX11_96 : FL RX11 96 11 6 := ⟨RX11, TX11, 16, rfl, by decide, rfl, iX11, Or.inl (gx2 64 rfl rfl)⟩
theorem flX11_117 : FL RX11 117 1 7 := ⟨RX1, TX1, 19, rfl, by decide, rfl, iX1, Or.inr ⟨"PaneScenes", (lx1 191 rfl)⟩⟩
theorem flX11_131 : FL RX11 131 1 14 := ⟨RX1, TX1, 19, rfl, by decide, rfl, iX1, Or.inr ⟨"PaneScenes", (lx1 207 rfl)⟩⟩
theorem flX11_134 : FL RX11 134 1 15 := ⟨RX1, TX1, 19, rfl, by decide, rfl, iX1, Or.inr ⟨"PaneScenes", (lx1 209 rfl)⟩⟩
theorem flX11_137 : FL RX11 137 1 17 := ⟨RX1, TX1, 19, rfl, by decide, rfl, iX1, Or.inr ⟨"PaneScenes", (lx1 213 rfl)⟩⟩
theorem flX11_140 : FL RX11 140 1 16 := ⟨RX1, TX1, 19, rfl, by decide, rfl, iX1, Or.inr ⟨"PaneScenes", (lx1 211 rfl)⟩⟩
theorem flX11_143 : FL RX11 143 1 8 := ⟨RX1, TX1, 19, rfl, by decide, rfl, iX1, Or.inr ⟨"PaneScenes", (lx1 194 rfl)⟩⟩
theorem flX11_154 : FL RX11 154 1 3 := ⟨RX1, TX1, 19, rfl, by decide, rfl, iX1, Or.inr ⟨"PaneScenes", (lx1 183 rfl)⟩⟩
theorem flX11_173 : FL RX11 173 1 11 := ⟨RX1, TX1, 19, rfl, by decide, rfl, iX1, Or.inr ⟨"PaneScenes", (lx1 201 rfl)⟩⟩
theorem flX11_176 : FL RX11 176 1 12 := ⟨RX1, TX1, 19, rfl, by decide, rfl, iX1, Or.inr ⟨"PaneScenes", (lx1 203 rfl)⟩⟩
theorem flX11_179 : FL RX11 179 1 13 := ⟨RX1, TX1, 19, rfl, by decide, rfl, iX1, Or.inr ⟨"PaneScenes", (lx1 205 rfl)⟩⟩
theorem flX11_182 : FL RX11 182 1 4 := ⟨RX1, TX1, 19, rfl, by decide, rfl, iX1, Or.inr ⟨"PaneScenes", (lx1 185 rfl)⟩⟩
theorem flX11_185 : FL RX11 185 1 5 := ⟨RX1, TX1, 19, rfl, by decide, rfl, iX1, Or.inr ⟨"PaneScenes", (lx1 187 rfl)⟩⟩
theorem flX11_188 : FL RX11 188 1 2 := ⟨RX1, TX1, 19, rfl, by decide, rfl, iX1, Or.inr ⟨"PaneScenes", (lx1 180 rfl)⟩⟩
theorem flX11_194 : FL RX11 194 1 6 := ⟨RX1, TX1, 19, rfl, by decide, rfl, iX1, Or.inr ⟨"PaneScenes", (lx1 189 rfl)⟩⟩
theorem flX11_205 : FL RX11 205 9 0 := ⟨RX9, TX9, 6, rfl, by decide, rfl, iX9, Or.inr ⟨"PaneScenes", (lx1 37 rfl)⟩⟩
theorem flX11_216 : FL RX11 216 1 1 := ⟨RX1, TX1, 19, rfl, by decide, rfl, iX1, Or.inr ⟨"PaneScenes", (lx1 177 rfl)⟩⟩
theorem flX11_223 : FL RX11 223 6 0 := ⟨RX6, TX6, 7, rfl, by decide, rfl, iX6, Or.inr ⟨"PaneScenes", (lx1 67 rfl)⟩⟩
theorem flX11_269 : FL RX11 269 5 4 := ⟨RX5, TX5, 9, rfl, by decide, rfl, iX5, Or.inr ⟨"PaneScenes", (lx2 30 rfl)⟩⟩
theorem flX11_272 : FL RX11 272 5 3 := ⟨RX5, TX5, 9, rfl, by decide, rfl, iX5, Or.inr ⟨"PaneScenes", (lx2 28 rfl)⟩⟩
theorem flX11_275 : FL RX11 275 5 2 := ⟨RX5, TX5, 9, rfl, by decide, rfl, iX5, Or.inr ⟨"PaneScenes", (lx2 26 rfl)⟩⟩
theorem flX11_278 : FL RX11 278 5 5 := ⟨RX5, TX5, 9, rfl, by decide, rfl, iX5, Or.inr ⟨"PaneScenes", (lx2 32 rfl)⟩⟩
theorem flX11_282 : FL RX11 282 5 7 := ⟨RX5, TX5, 9, rfl, by decide, rfl, iX5, Or.inr ⟨"PaneScenes", (lx2 35 rfl)⟩⟩
theorem flX11_285 : FL RX11 285 5 8 := ⟨RX5, TX5, 9, rfl, by decide, rfl, iX5, Or.inr ⟨"PaneScenes", (lx2 37 rfl)⟩⟩
theorem flX11_295 : FL RX11 295 1 10 := ⟨RX1, TX1, 19, rfl, by decide, rfl, iX1, Or.inr ⟨"PaneScenes", (lx1 199 rfl)⟩⟩
theorem flX11_308 : FL RX11 308 1 9 := ⟨RX1, TX1, 19, rfl, by decide, rfl, iX1, Or.inr ⟨"PaneScenes", (lx1 197 rfl)⟩⟩
theorem flX11_377 : FL RX11 377 8 4 := ⟨RX8, TX8, 5, rfl, by decide, rfl, iX8, Or.inr ⟨"PaneScenes", (lx1 111 rfl)⟩⟩
theorem flX11_380 : FL RX11 380 8 1 := ⟨RX8, TX8, 5, rfl, by decide, rfl, iX8, Or.inr ⟨"PaneScenes", (lx1 99 rfl)⟩⟩
theorem flX11_381 : FL RX11 381 8 0 := ⟨RX8, TX8, 5, rfl, by decide, rfl, iX8, Or.inr ⟨"PaneScenes", (lx1 97 rfl)⟩⟩
theorem fpX11_9 : FP RX11 9 11 3 .boolean := ⟨RX11, TX11, 16, tyX11, rfl, by decide, rfl, iX11, Or.inl (gx2 61 rfl rfl), tyX11_ok, nmX11, rfl, by decide +kernel⟩
theorem fpX11_38 : FP RX11 38 11 9 .int := ⟨RX11, TX11, 16, tyX11, rfl, by decide, rfl, iX11, Or.inl (gx2 67 rfl rfl), tyX11_ok, nmX11, rfl, by decide +kernel⟩
theorem fpX11_143 : FP RX11 143 1 8 .int := ⟨RX1, TX1, 19, tyX1, rfl, by decide, rfl, iX1, Or.inr ⟨"PaneScenes", (lx1 194 rfl)⟩, tyX1_ok, nmX1, rfl, by decide +kernel⟩
theorem fpX11_182 : FP RX11 182 1 4 .int := ⟨RX1, TX1, 19, tyX1, rfl, by decide, rfl, iX1, Or.inr ⟨"PaneScenes", (lx1 185 rfl)⟩, tyX1_ok, nmX1, rfl, by decide +kernel⟩
theorem fpX11_185 : FP RX11 185 1 5 .int := ⟨RX1, TX1, 19, tyX1, rfl, by decide, rfl, iX1, Or.inr ⟨"PaneScenes", (lx1 187 rfl)⟩, tyX1_ok, nmX1, rfl, by decide +kernel⟩
theorem fpX11_188 : FP RX11 188 1 2 .int := ⟨RX1, TX1, 19, tyX1, rfl, by decide, rfl, iX1, Or.inr ⟨"PaneScenes", (lx1 180 rfl)⟩, tyX1_ok, nmX1, rfl, by decide +kernel⟩
theorem fpX11_295 : FP RX11 295 1 10 .int := ⟨RX1, TX1, 19, tyX1, rfl, by decide, rfl, iX1, Or.inr ⟨"PaneScenes", (lx1 199 rfl)⟩, tyX1_ok, nmX1, rfl, by decide +kernel⟩
theorem fpX11_308 : FP RX11 308 1 9 .int := ⟨RX1, TX1, 19, tyX1, rfl, by decide, rfl, iX1, Or.inr ⟨"PaneScenes", (lx1 197 rfl)⟩, tyX1_ok, nmX1, rfl, by decide +kernel⟩
theorem flX11_359 : FL RX11 359 8 2 := ⟨RX8, TX8, 5, rfl, by decide, rfl, iX8, Or.inr ⟨"PaneScenes", (lx1 104 rfl)⟩⟩
theorem fpX11_359 : FP RX11 359 8 2 .int := ⟨RX8, TX8, 5, tyX8, rfl, by decide, rfl, iX8, Or.inr ⟨"PaneScenes", (lx1 104 rfl)⟩, tyX8_ok, nmX8, rfl, by decide +kernel⟩
theorem flX11_362 : FL RX11 362 8 3 := ⟨RX8, TX8, 5, rfl, by decide, rfl, iX8, Or.inr ⟨"PaneScenes", (lx1 108 rfl)⟩⟩
theorem fpX11_362 : FP RX11 362 8 3 .int := ⟨RX8, TX8, 5, tyX8, rfl, by decide, rfl, iX8, Or.inr ⟨"PaneScenes", (lx1 108 rfl)⟩, tyX8_ok, nmX8, rfl, by decide +kernel⟩
theorem flX0_27 : FL RX0 27 8 2 := ⟨RX8, TX8, 5, rfl, by decide, rfl, iX8, Or.inr ⟨"PaneScenes", (lx1 103 rfl)⟩⟩
theorem flX1_9 : FL RX1 9 1 2 := ⟨RX1, TX1, 19, rfl, by decide, rfl, iX1, Or.inl (gx1 178 rfl rfl)⟩
theorem flX1_15 : FL RX1 15 1 3 := ⟨RX1, TX1, 19, rfl, by decide, rfl, iX1, Or.inl (gx1 181 rfl rfl)⟩
theorem flX1_18 : FL RX1 18 1 4 := ⟨RX1, TX1, 19, rfl, by decide, rfl, iX1, Or.inl (gx1 184 rfl rfl)⟩
theorem flX1_21 : FL RX1 21 1 5 := ⟨RX1, TX1, 19, rfl, by decide, rfl, iX1, Or.inl (gx1 186 rfl rfl)⟩
theorem flX1_24 : FL RX1 24 1 6 := ⟨RX1, TX1, 19, rfl, by decide, rfl, iX1, Or.inl (gx1 188 rfl rfl)⟩
theorem flX1_27 : FL RX1 27 1 7 := ⟨RX1, TX1, 19, rfl, by decide, rfl, iX1, Or.inl (gx1 190 rfl rfl)⟩
theorem flX1_30 : FL RX1 30 1 8 := ⟨RX1, TX1, 19, rfl, by decide, rfl, iX1, Or.inl (gx1 193 rfl rfl)⟩
theorem flX1_33 : FL RX1 33 1 9 := ⟨RX1, TX1, 19, rfl, by decide, rfl, iX1, Or.inl (gx1 196 rfl rfl)⟩
theorem flX1_36 : FL RX1 36 1 10 := ⟨RX1, TX1, 19, rfl, by decide, rfl, iX1, Or.inl (gx1 198 rfl rfl)⟩
theorem flX1_39 : FL RX1 39 1 11 := ⟨RX1, TX1, 19, rfl, by decide, rfl, iX1, Or.inl (gx1 200 rfl rfl)⟩
theorem flX1_43 : FL RX1 43 1 12 := ⟨RX1, TX1, 19, rfl, by decide, rfl, iX1, Or.inl (gx1 202 rfl rfl)⟩
theorem flX1_46 : FL RX1 46 1 13 := ⟨RX1, TX1, 19, rfl, by decide, rfl, iX1, Or.inl (gx1 204 rfl rfl)⟩
theorem flX1_49 : FL RX1 49 1 14 := ⟨RX1, TX1, 19, rfl, by decide, rfl, iX1, Or.inl (gx1 206 rfl rfl)⟩
theorem flX1_52 : FL RX1 52 1 15 := ⟨RX1, TX1, 19, rfl, by decide, rfl, iX1, Or.inl (gx1 208 rfl rfl)⟩
theorem flX1_55 : FL RX1 55 1 16 := ⟨RX1, TX1, 19, rfl, by decide, rfl, iX1, Or.inl (gx1 210 rfl rfl)⟩
theorem flX1_58 : FL RX1 58 1 17 := ⟨RX1, TX1, 19, rfl, by decide, rfl, iX1, Or.inl (gx1 212 rfl rfl)⟩
theorem flX1_61 : FL RX1 61 1 18 := ⟨RX1, TX1, 19, rfl, by decide, rfl, iX1, Or.inl (gx1 214 rfl rfl)⟩
theorem flX1_64 : FL RX1 64 1 0 := ⟨RX1, TX1, 19, rfl, by decide, rfl, iX1, Or.inl (gx1 175 rfl rfl)⟩
theorem flX1_68 : FL RX1 68 1 1 := ⟨RX1, TX1, 19, rfl, by decide, rfl, iX1, Or.inl (gx1 176 rfl rfl)⟩
theorem flX1_116 : FL RX1 116 6 0 := ⟨RX6, TX6, 7, rfl, by decide, rfl, iX6, Or.inr ⟨"PaneScenes", (lx1 66 rfl)⟩⟩
theorem flX1_121 : FL RX1 121 6 6 := ⟨RX6, TX6, 7, rfl, by decide, rfl, iX6, Or.inr ⟨"PaneScenes", (lx1 74 rfl)⟩⟩
theorem fpX1_9 : FP RX1 9 1 2 .int := ⟨RX1, TX1, 19, tyX1, rfl, by decide, rfl, iX1, Or.inl (gx1 178 rfl rfl), tyX1_ok, nmX1, rfl, by decide +kernel⟩
theorem fpX1_15 : FP RX1 15 1 3 .int := ⟨RX1, TX1, 19, tyX1, rfl, by decide, rfl, iX1, Or.inl (gx1 181 rfl rfl), tyX1_ok, nmX1, rfl, by decide +kernel⟩
theorem fpX1_18 : FP RX1 18 1 4 .int := ⟨RX1, TX1, 19, tyX1, rfl, by decide, rfl, iX1, Or.inl (gx1 184 rfl rfl), tyX1_ok, nmX1, rfl, by decide +kernel⟩
theorem fpX1_21 : FP RX1 21 1 5 .int := ⟨RX1, TX1, 19, tyX1, rfl, by decide, rfl, iX1, Or.inl (gx1 186 rfl rfl), tyX1_ok, nmX1, rfl, by decide +kernel⟩
theorem fpX1_24 : FP RX1 24 1 6 .int := ⟨RX1, TX1, 19, tyX1, rfl, by decide, rfl, iX1, Or.inl (gx1 188 rfl rfl), tyX1_ok, nmX1, rfl, by decide +kernel⟩
theorem fpX1_27 : FP RX1 27 1 7 .int := ⟨RX1, TX1, 19, tyX1, rfl, by decide, rfl, iX1, Or.inl (gx1 190 rfl rfl), tyX1_ok, nmX1, rfl, by decide +kernel⟩
theorem fpX1_30 : FP RX1 30 1 8 .int := ⟨RX1, TX1, 19, tyX1, rfl, by decide, rfl, iX1, Or.inl (gx1 193 rfl rfl), tyX1_ok, nmX1, rfl, by decide +kernel⟩
theorem fpX1_33 : FP RX1 33 1 9 .int := ⟨RX1, TX1, 19, tyX1, rfl, by decide, rfl, iX1, Or.inl (gx1 196 rfl rfl), tyX1_ok, nmX1, rfl, by decide +kernel⟩
theorem fpX1_36 : FP RX1 36 1 10 .int := ⟨RX1, TX1, 19, tyX1, rfl, by decide, rfl, iX1, Or.inl (gx1 198 rfl rfl), tyX1_ok, nmX1, rfl, by decide +kernel⟩
theorem flX4_15 : FL RX4 15 8 2 := ⟨RX8, TX8, 5, rfl, by decide, rfl, iX8, Or.inr ⟨"PaneScenes", (lx1 101 rfl)⟩⟩
theorem flX4_25 : FL RX4 25 8 3 := ⟨RX8, TX8, 5, rfl, by decide, rfl, iX8, Or.inr ⟨"PaneScenes", (lx1 107 rfl)⟩⟩
theorem flX4_28 : FL RX4 28 8 4 := ⟨RX8, TX8, 5, rfl, by decide, rfl, iX8, Or.inr ⟨"PaneScenes", (lx1 110 rfl)⟩⟩
theorem fpX4_28 : FP RX4 28 8 4 .boolean := ⟨RX8, TX8, 5, tyX8, rfl, by decide, rfl, iX8, Or.inr ⟨"PaneScenes", (lx1 110 rfl)⟩, tyX8_ok, nmX8, rfl, by decide +kernel⟩
theorem flX5_11 : FL RX5 11 5 0 := ⟨RX5, TX5, 9, rfl, by decide, rfl, iX5, Or.inl (gx2 23 rfl rfl)⟩
theorem flX5_17 : FL RX5 17 5 1 := ⟨RX5, TX5, 9, rfl, by decide, rfl, iX5, Or.inl (gx2 24 rfl rfl)⟩
theorem flX5_21 : FL RX5 21 5 2 := ⟨RX5, TX5, 9, rfl, by decide, rfl, iX5, Or.inl (gx2 25 rfl rfl)⟩
theorem flX5_24 : FL RX5 24 5 3 := ⟨RX5, TX5, 9, rfl, by decide, rfl, iX5, Or.inl (gx2 27 rfl rfl)⟩
theorem flX5_28 : FL RX5 28 5 4 := ⟨RX5, TX5, 9, rfl, by decide, rfl, iX5, Or.inl (gx2 29 rfl rfl)⟩
theorem flX5_31 : FL RX5 31 5 5 := ⟨RX5, TX5, 9, rfl, by decide, rfl, iX5, Or.inl (gx2 31 rfl rfl)⟩
theorem flX5_34 : FL RX5 34 5 6 := ⟨RX5, TX5, 9, rfl, by decide, rfl, iX5, Or.inl (gx2 33 rfl rfl)⟩
theorem flX5_37 : FL RX5 37 5 7 := ⟨RX5, TX5, 9, rfl, by decide, rfl, iX5, Or.inl (gx2 34 rfl rfl)⟩
theorem flX5_40 : FL RX5 40 5 8 := ⟨RX5, TX5, 9, rfl, by decide, rfl, iX5, Or.inl (gx2 36 rfl rfl)⟩
theorem flX5_46 : FL RX5 46 1 2 := ⟨RX1, TX1, 19, rfl, by decide, rfl, iX1, Or.inr ⟨"PaneScenes", (lx1 179 rfl)⟩⟩
theorem flX5_49 : FL RX5 49 1 3 := ⟨RX1, TX1, 19, rfl, by decide, rfl, iX1, Or.inr ⟨"PaneScenes", (lx1 182 rfl)⟩⟩
theorem flX5_73 : FL RX5 73 1 8 := ⟨RX1, TX1, 19, rfl, by decide, rfl, iX1, Or.inr ⟨"PaneScenes", (lx1 195 rfl)⟩⟩
theorem flX5_79 : FL RX5 79 1 7 := ⟨RX1, TX1, 19, rfl, by decide, rfl, iX1, Or.inr ⟨"PaneScenes", (lx1 192 rfl)⟩⟩
theorem fpX5_24 : FP RX5 24 5 3 .int := ⟨RX5, TX5, 9, tyX5, rfl, by decide, rfl, iX5, Or.inl (gx2 27 rfl rfl), tyX5_ok, nmX5, rfl, by decide +kernel⟩
theorem fpX5_28 : FP RX5 28 5 4 .int := ⟨RX5, TX5, 9, tyX5, rfl, by decide, rfl, iX5, Or.inl (gx2 29 rfl rfl), tyX5_ok, nmX5, rfl, by decide +kernel⟩
theorem fpX5_31 : FP RX5 31 5 5 .int := ⟨RX5, TX5, 9, tyX5, rfl, by decide, rfl, iX5, Or.inl (gx2 31 rfl rfl), tyX5_ok, nmX5, rfl, by decide +kernel⟩
theorem fpX5_34 : FP RX5 34 5 6 .int := ⟨RX5, TX5, 9, tyX5, rfl, by decide, rfl, iX5, Or.inl (gx2 33 rfl rfl), tyX5_ok, nmX5, rfl, by decide +kernel⟩
theorem fpX5_37 : FP RX5 37 5 7 .int := ⟨RX5, TX5, 9, tyX5, rfl, by decide, rfl, iX5, Or.inl (gx2 34 rfl rfl), tyX5_ok, nmX5, rfl, by decide +kernel⟩
theorem fpX5_40 : FP RX5 40 5 8 .int := ⟨RX5, TX5, 9, tyX5, rfl, by decide, rfl, iX5, Or.inl (gx2 36 rfl rfl), tyX5_ok, nmX5, rfl, by decide +kernel⟩
theorem flX6_9 : FL RX6 9 6 0 := ⟨RX6, TX6, 7, rfl, by decide, rfl, iX6, Or.inl (gx1 64 rfl rfl)⟩
theorem flX6_15 : FL RX6 15 6 1 := ⟨RX6, TX6, 7, rfl, by decide, rfl, iX6, Or.inl (gx1 68 rfl rfl)⟩
theorem flX6_18 : FL RX6 18 6 2 := ⟨RX6, TX6, 7, rfl, by decide, rfl, iX6, Or.inl (gx1 69 rfl rfl)⟩
theorem flX6_22 : FL RX6 22 6 3 := ⟨RX6, TX6, 7, rfl, by decide, rfl, iX6, Or.inl (gx1 70 rfl rfl)⟩
theorem flX6_25 : FL RX6 25 6 4 := ⟨RX6, TX6, 7, rfl, by decide, rfl, iX6, Or.inl (gx1 71 rfl rfl)⟩
theorem flX6_30 : FL RX6 30 6 5 := ⟨RX6, TX6, 7, rfl, by decide, rfl, iX6, Or.inl (gx1 72 rfl rfl)⟩
theorem flX6_33 : FL RX6 33 6 6 := ⟨RX6, TX6, 7, rfl, by decide, rfl, iX6, Or.inl (gx1 73 rfl rfl)⟩
theorem fpX6_9 : FP RX6 9 6 0 .int := ⟨RX6, TX6, 7, tyX6, rfl, by decide, rfl, iX6, Or.inl (gx1 64 rfl rfl), tyX6_ok, nmX6, rfl, by decide +kernel⟩
theorem fpX6_15 : FP RX6 15 6 1 .int := ⟨RX6, TX6, 7, tyX6, rfl, by decide, rfl, iX6, Or.inl (gx1 68 rfl rfl), tyX6_ok, nmX6, rfl, by decide +kernel⟩
theorem flX7_20 : FL RX7 20 8 2 := ⟨RX8, TX8, 5, rfl, by decide, rfl, iX8, Or.inr ⟨"PaneScenes", (lx1 102 rfl)⟩⟩
theorem flX8_7 : FL RX8 7 8 0 := ⟨RX8, TX8, 5, rfl, by decide, rfl, iX8, Or.inl (gx1 96 rfl rfl)⟩
theorem flX8_13 : FL RX8 13 8 1 := ⟨RX8, TX8, 5, rfl, by decide, rfl, iX8, Or.inl (gx1 98 rfl rfl)⟩
theorem flX8_23 : FL RX8 23 8 4 := ⟨RX8, TX8, 5, rfl, by decide, rfl, iX8, Or.inl (gx1 109 rfl rfl)⟩
theorem fpX8_13 : FP RX8 13 8 1 .int := ⟨RX8, TX8, 5, tyX8, rfl, by decide, rfl, iX8, Or.inl (gx1 98 rfl rfl), tyX8_ok, nmX8, rfl, by decide +kernel⟩
theorem flX8_17 : FL RX8 17 8 2 := ⟨RX8, TX8, 5, rfl, by decide, rfl, iX8, Or.inl (gx1 100 rfl rfl)⟩
theorem fpX8_17 : FP RX8 17 8 2 .int := ⟨RX8, TX8, 5, tyX8, rfl, by decide, rfl, iX8, Or.inl (gx1 100 rfl rfl), tyX8_ok, nmX8, rfl, by decide +kernel⟩
theorem flX8_20 : FL RX8 20 8 3 := ⟨RX8, TX8, 5, rfl, by decide, rfl, iX8, Or.inl (gx1 105 rfl rfl)⟩
theorem fpX8_20 : FP RX8 20 8 3 .int := ⟨RX8, TX8, 5, tyX8, rfl, by decide, rfl, iX8, Or.inl (gx1 105 rfl rfl), tyX8_ok, nmX8, rfl, by decide +kernel⟩
theorem fpX8_23 : FP RX8 23 8 4 .boolean := ⟨RX8, TX8, 5, tyX8, rfl, by decide, rfl, iX8, Or.inl (gx1 109 rfl rfl), tyX8_ok, nmX8, rfl, by decide +kernel⟩
theorem flX9_11 : FL RX9 11 9 0 := ⟨RX9, TX9, 6, rfl, by decide, rfl, iX9, Or.inl (gx1 36 rfl rfl)⟩
theorem flX9_15 : FL RX9 15 9 1 := ⟨RX9, TX9, 6, rfl, by decide, rfl, iX9, Or.inl (gx1 38 rfl rfl)⟩
theorem flX9_19 : FL RX9 19 9 2 := ⟨RX9, TX9, 6, rfl, by decide, rfl, iX9, Or.inl (gx1 39 rfl rfl)⟩
theorem flX9_23 : FL RX9 23 9 3 := ⟨RX9, TX9, 6, rfl, by decide, rfl, iX9, Or.inl (gx1 40 rfl rfl)⟩
theorem flX9_26 : FL RX9 26 9 4 := ⟨RX9, TX9, 6, rfl, by decide, rfl, iX9, Or.inl (gx1 41 rfl rfl)⟩
theorem flX9_29 : FL RX9 29 9 5 := ⟨RX9, TX9, 6, rfl, by decide, rfl, iX9, Or.inl (gx1 42 rfl rfl)⟩
theorem flX9_80 : FL RX9 80 6 0 := ⟨RX6, TX6, 7, rfl, by decide, rfl, iX6, Or.inr ⟨"PaneScenes", (lx1 65 rfl)⟩⟩
theorem fpX9_11 : FP RX9 11 9 0 .int := ⟨RX9, TX9, 6, tyX9, rfl, by decide, rfl, iX9, Or.inl (gx1 36 rfl rfl), tyX9_ok, nmX9, rfl, by decide +kernel⟩
theorem fpX9_26 : FP RX9 26 9 4 .int := ⟨RX9, TX9, 6, tyX9, rfl, by decide, rfl, iX9, Or.inl (gx1 41 rfl rfl), tyX9_ok, nmX9, rfl, by decide +kernel⟩
theorem fpX9_29 : FP RX9 29 9 5 .boolean := ⟨RX9, TX9, 6, tyX9, rfl, by decide, rfl, iX9, Or.inl (gx1 42 rfl rfl), tyX9_ok, nmX9, rfl, by decide +kernel⟩
theorem flX10_26 : FL RX10 26 8 3 := ⟨RX8, TX8, 5, rfl, by decide, rfl, iX8, Or.inr ⟨"PaneScenes", (lx1 106 rfl)⟩⟩
theorem flX12_9 : FL RX12 9 12 0 := ⟨RX12, TX12, 38, rfl, by decide, rfl, iX12, Or.inl (gx5 130 rfl rfl)⟩
theorem flX12_13 : FL RX12 13 12 1 := ⟨RX12, TX12, 38, rfl, by decide, rfl, iX12, Or.inl (gx5 131 rfl rfl)⟩
theorem flX12_16 : FL RX12 16 12 2 := ⟨RX12, TX12, 38, rfl, by decide, rfl, iX12, Or.inl (gx5 132 rfl rfl)⟩
theorem flX12_19 : FL RX12 19 12 4 := ⟨RX12, TX12, 38, rfl, by decide, rfl, iX12, Or.inl (gx5 134 rfl rfl)⟩
theorem flX12_22 : FL RX12 22 12 5 := ⟨RX12, TX12, 38, rfl, by decide, rfl, iX12, Or.inl (gx5 135 rfl rfl)⟩
theorem flX12_25 : FL RX12 25 12 7 := ⟨RX12, TX12, 38, rfl, by decide, rfl, iX12, Or.inl (gx5 137 rfl rfl)⟩
theorem flX12_29 : FL RX12 29 12 14 := ⟨RX12, TX12, 38, rfl, by decide, rfl, iX12, Or.inl (gx5 144 rfl rfl)⟩
theorem flX12_32 : FL RX12 32 12 15 := ⟨RX12, TX12, 38, rfl, by decide, rfl, iX12, Or.inl (gx5 145 rfl rfl)⟩
theorem flX12_35 : FL RX12 35 12 18 := ⟨RX12, TX12, 38, rfl, by decide, rfl, iX12, Or.inl (gx5 148 rfl rfl)⟩
theorem flX12_38 : FL RX12 38 12 19 := ⟨RX12, TX12, 38, rfl, by decide, rfl, iX12, Or.inl (gx5 149 rfl rfl)⟩
theorem flX12_41 : FL RX12 41 12 20 := ⟨RX12, TX12, 38, rfl, by decide, rfl, iX12, Or.inl (gx5 150 rfl rfl)⟩
theorem flX12_44 : FL RX12 44 12 25 := ⟨RX12, TX12, 38, rfl, by decide, rfl, iX12, Or.inl (gx5 155 rfl rfl)⟩
theorem flX12_47 : FL RX12 47 12 27 := ⟨RX12, TX12, 38, rfl, by decide, rfl, iX12, Or.inl (gx5 157 rfl rfl)⟩
theorem flX12_50 : FL RX12 50 12 29 := ⟨RX12, TX12, 38, rfl, by decide, rfl, iX12, Or.inl (gx5 159 rfl rfl)⟩
theorem flX12_53 : FL RX12 53 12 30 := ⟨RX12, TX12, 38, rfl, by decide, rfl, iX12, Or.inl (gx5 160 rfl rfl)⟩
theorem flX12_56 : FL RX12 56 12 31 := ⟨RX12, TX12, 38, rfl, by decide, rfl, iX12, Or.inl (gx5 161 rfl rfl)⟩
theorem flX12_59 : FL RX12 59 12 32 := ⟨RX12, TX12, 38, rfl, by decide, rfl, iX12, Or.inl (gx5 162 rfl rfl)⟩
theorem flX12_62 : FL RX12 62 12 33 := ⟨RX12, TX12, 38, rfl, by decide, rfl, iX12, Or.inl (gx5 163 rfl rfl)⟩
theorem flX12_65 : FL RX12 65 12 34 := ⟨RX12, TX12, 38, rfl, by decide, rfl, iX12, Or.inl (gx5 164 rfl rfl)⟩
theorem flX12_120 : FL RX12 120 12 6 := ⟨RX12, TX12, 38, rfl, by decide, rfl, iX12, Or.inl (gx5 136 rfl rfl)⟩
theorem flX12_124 : FL RX12 124 12 8 := ⟨RX12, TX12, 38, rfl, by decide, rfl, iX12, Or.inl (gx5 138 rfl rfl)⟩
theorem flX12_127 : FL RX12 127 12 9 := ⟨RX12, TX12, 38, rfl, by decide, rfl, iX12, Or.inl (gx5 139 rfl rfl)⟩
theorem flX12_133 : FL RX12 133 12 10 := ⟨RX12, TX12, 38, rfl, by decide, rfl, iX12, Or.inl (gx5 140 rfl rfl)⟩
theorem flX12_139 : FL RX12 139 12 11 := ⟨RX12, TX12, 38, rfl, by decide, rfl, iX12, Or.inl (gx5 141 rfl rfl)⟩
theorem flX12_151 : FL RX12 151 12 13 := ⟨RX12, TX12, 38, rfl, by decide, rfl, iX12, Or.inl (gx5 143 rfl rfl)⟩
theorem flX12_162 : FL RX12 162 12 12 := ⟨RX12, TX12, 38, rfl, by decide, rfl, iX12, Or.inl (gx5 142 rfl rfl)⟩
theorem flX12_255 : FL RX12 255 12 16 := ⟨RX12, TX12, 38, rfl, by decide, rfl, iX12, Or.inl (gx5 146 rfl rfl)⟩
theorem flX12_258 : FL RX12 258 12 17 := ⟨RX12, TX12, 38, rfl, by decide, rfl, iX12, Or.inl (gx5 147 rfl rfl)⟩
theorem flX12_265 : FL RX12 265 12 21 := ⟨RX12, TX12, 38, rfl, by decide, rfl, iX12, Or.inl (gx5 151 rfl rfl)⟩
theorem flX12_268 : FL RX12 268 12 22 := ⟨RX12, TX12, 38, rfl, by decide, rfl, iX12, Or.inl (gx5 152 rfl rfl)⟩
theorem flX12_271 : FL RX12 271 12 23 := ⟨RX12, TX12, 38, rfl, by decide, rfl, iX12, Or.inl (gx5 153 rfl rfl)⟩
theorem flX12_274 : FL RX12 274 12 24 := ⟨RX12, TX12, 38, rfl, by decide, rfl, iX12, Or.inl (gx5 154 rfl rfl)⟩
theorem flX12_306 : FL RX12 306 12 26 := ⟨RX12, TX12, 38, rfl, by decide, rfl, iX12, Or.inl (gx5 156 rfl rfl)⟩
theorem flX12_322 : FL RX12 322 12 28 := ⟨RX12, TX12, 38, rfl, by decide, rfl, iX12, Or.inl (gx5 158 rfl rfl)⟩
theorem flX12_346 : FL RX12 346 12 35 := ⟨RX12, TX12, 38, rfl, by decide, rfl, iX12, Or.inl (gx5 165 rfl rfl)⟩
