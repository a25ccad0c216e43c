section CW
set_option maxRecDepth 100000 in
theorem wu_X0 : ∀ w ∈ u_ws RX0 TX0 5, w ∈ WALL := fun w h => List.mem_filter.mpr ⟨(by decide +kernel : ∀ w ∈ u_ws RX0 TX0 5, w ∈ lw_tbl) w h, (by decide +kernel : ∀ w ∈ u_ws RX0 TX0 5, goodWord w = true) w h⟩
set_option maxRecDepth 100000 in
theorem wu_X1 : ∀ w ∈ u_ws RX1 TX1 12, w ∈ WALL := fun w h => List.mem_filter.mpr ⟨(by decide +kernel : ∀ w ∈ u_ws RX1 TX1 12, w ∈ lw_tbl) w h, (by decide +kernel : ∀ w ∈ u_ws RX1 TX1 12, goodWord w = true) w h⟩
set_option maxRecDepth 100000 in
theorem wu_X2 : ∀ w ∈ u_ws RX2 TX2 6, w ∈ WALL := fun w h => List.mem_filter.mpr ⟨(by decide +kernel : ∀ w ∈ u_ws RX2 TX2 6, w ∈ lw_tbl) w h, (by decide +kernel : ∀ w ∈ u_ws RX2 TX2 6, goodWord w = true) w h⟩
set_option maxRecDepth 100000 in
theorem wu_X3 : ∀ w ∈ u_ws RX3 TX3 6, w ∈ WALL := fun w h => List.mem_filter.mpr ⟨(by decide +kernel : ∀ w ∈ u_ws RX3 TX3 6, w ∈ lw_tbl) w h, (by decide +kernel : ∀ w ∈ u_ws RX3 TX3 6, goodWord w = true) w h⟩
set_option maxRecDepth 100000 in
theorem wu_X4 : ∀ w ∈ u_ws RX4 TX4 9, w ∈ WALL := fun w h => List.mem_filter.mpr ⟨(by decide +kernel : ∀ w ∈ u_ws RX4 TX4 9, w ∈ lw_tbl) w h, (by decide +kernel : ∀ w ∈ u_ws RX4 TX4 9, goodWord w = true) w h⟩
set_option maxRecDepth 100000 in
theorem wu_X5 : ∀ w ∈ u_ws RX5 TX5 9, w ∈ WALL := fun w h => List.mem_filter.mpr ⟨(by decide +kernel : ∀ w ∈ u_ws RX5 TX5 9, w ∈ lw_tbl) w h, (by decide +kernel : ∀ w ∈ u_ws RX5 TX5 9, goodWord w = true) w h⟩
set_option maxRecDepth 100000 in
theorem wu_X6 : ∀ w ∈ u_ws RX6 TX6 28, w ∈ WALL := fun w h => List.mem_filter.mpr ⟨(by decide +kernel : ∀ w ∈ u_ws RX6 TX6 28, w ∈ lw_tbl) w h, (by decide +kernel : ∀ w ∈ u_ws RX6 TX6 28, goodWord w = true) w h⟩
end CW
