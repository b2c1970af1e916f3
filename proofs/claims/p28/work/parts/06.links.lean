set_option maxRecDepth 100000 in
theorem clA0 : ∀ w ∈ u_ws RX0 TX0 9, w ∈ tG := (show ∀ w ∈ [u_lay RX0 TX0 0, u_lay RX0 TX0 1, u_lay RX0 TX0 2, u_lay RX0 TX0 3, u_lay RX0 TX0 4, u_lay RX0 TX0 5, u_lay RX0 TX0 6, u_lay RX0 TX0 7, u_lay RX0 TX0 8], w ∈ tG from (List.forall_mem_cons.2 ⟨(tG_of (tb1 (List.mem_of_getElem? (i := 118) rfl)) (by decide +kernel)), (List.forall_mem_cons.2 ⟨(tG_of (tb1 (List.mem_of_getElem? (i := 120) rfl)) (by decide +kernel)), (List.forall_mem_cons.2 ⟨(tG_of (tb1 (List.mem_of_getElem? (i := 122) rfl)) (by decide +kernel)), (List.forall_mem_cons.2 ⟨(tG_of (tb1 (List.mem_of_getElem? (i := 124) rfl)) (by decide +kernel)), (List.forall_mem_cons.2 ⟨(tG_of (tb1 (List.mem_of_getElem? (i := 126) rfl)) (by decide +kernel)), (List.forall_mem_cons.2 ⟨(tG_of (tb1 (List.mem_of_getElem? (i := 128) rfl)) (by decide +kernel)), (List.forall_mem_cons.2 ⟨(tG_of (tb1 (List.mem_of_getElem? (i := 130) rfl)) (by decide +kernel)), (List.forall_mem_cons.2 ⟨(tG_of (tb1 (List.mem_of_getElem? (i := 132) rfl)) (by decide +kernel)), (List.forall_mem_cons.2 ⟨(tG_of (tb1 (List.mem_of_getElem? (i := 134) rfl)) (by decide +kernel)), (fun _ h => absurd h (List.not_mem_nil))⟩)⟩)⟩)⟩)⟩)⟩)⟩)⟩)⟩))
theorem cl0 : clF 0 RX0 TX0 9 tyX0 := ⟨rfl, clA0, tyX0_ok, nmX0⟩
set_option maxRecDepth 100000 in
theorem clA1 : ∀ w ∈ u_ws RX1 TX1 7, w ∈ tG := (show ∀ w ∈ [u_lay RX1 TX1 0, u_lay RX1 TX1 1, u_lay RX1 TX1 2, u_lay RX1 TX1 3, u_lay RX1 TX1 4, u_lay RX1 TX1 5, u_lay RX1 TX1 6], w ∈ tG from (List.forall_mem_cons.2 ⟨(tG_of (tb1 (List.mem_of_getElem? (i := 202) rfl)) (by decide +kernel)), (List.forall_mem_cons.2 ⟨(tG_of (tb1 (List.mem_of_getElem? (i := 204) rfl)) (by decide +kernel)), (List.forall_mem_cons.2 ⟨(tG_of (tb1 (List.mem_of_getElem? (i := 206) rfl)) (by decide +kernel)), (List.forall_mem_cons.2 ⟨(tG_of (tb1 (List.mem_of_getElem? (i := 208) rfl)) (by decide +kernel)), (List.forall_mem_cons.2 ⟨(tG_of (tb1 (List.mem_of_getElem? (i := 210) rfl)) (by decide +kernel)), (List.forall_mem_cons.2 ⟨(tG_of (tb1 (List.mem_of_getElem? (i := 212) rfl)) (by decide +kernel)), (List.forall_mem_cons.2 ⟨(tG_of (tb1 (List.mem_of_getElem? (i := 214) rfl)) (by decide +kernel)), (fun _ h => absurd h (List.not_mem_nil))⟩)⟩)⟩)⟩)⟩)⟩)⟩))
theorem cl1 : clF 1 RX1 TX1 7 tyX1 := ⟨rfl, clA1, tyX1_ok, nmX1⟩
set_option maxRecDepth 100000 in
theorem clA2 : ∀ w ∈ u_ws RX2 TX2 6, w ∈ tG := (show ∀ w ∈ [u_lay RX2 TX2 0, u_lay RX2 TX2 1, u_lay RX2 TX2 2, u_lay RX2 TX2 3, u_lay RX2 TX2 4, u_lay RX2 TX2 5], w ∈ tG from (List.forall_mem_cons.2 ⟨(tG_of (tb1 (List.mem_of_getElem? (i := 79) rfl)) (by decide +kernel)), (List.forall_mem_cons.2 ⟨(tG_of (tb1 (List.mem_of_getElem? (i := 81) rfl)) (by decide +kernel)), (List.forall_mem_cons.2 ⟨(tG_of (tb1 (List.mem_of_getElem? (i := 83) rfl)) (by decide +kernel)), (List.forall_mem_cons.2 ⟨(tG_of (tb1 (List.mem_of_getElem? (i := 85) rfl)) (by decide +kernel)), (List.forall_mem_cons.2 ⟨(tG_of (tb1 (List.mem_of_getElem? (i := 87) rfl)) (by decide +kernel)), (List.forall_mem_cons.2 ⟨(tG_of (tb1 (List.mem_of_getElem? (i := 89) rfl)) (by decide +kernel)), (fun _ h => absurd h (List.not_mem_nil))⟩)⟩)⟩)⟩)⟩)⟩))
theorem cl2 : clF 2 RX2 TX2 6 tyX2 := ⟨rfl, clA2, tyX2_ok, nmX2⟩
set_option maxRecDepth 100000 in
theorem clA3 : ∀ w ∈ u_ws RX3 TX3 3, w ∈ tG := (show ∀ w ∈ [u_lay RX3 TX3 0, u_lay RX3 TX3 1, u_lay RX3 TX3 2], w ∈ tG from (List.forall_mem_cons.2 ⟨(tG_of (tb1 (List.mem_of_getElem? (i := 155) rfl)) (by decide +kernel)), (List.forall_mem_cons.2 ⟨(tG_of (tb1 (List.mem_of_getElem? (i := 157) rfl)) (by decide +kernel)), (List.forall_mem_cons.2 ⟨(tG_of (tb1 (List.mem_of_getElem? (i := 159) rfl)) (by decide +kernel)), (fun _ h => absurd h (List.not_mem_nil))⟩)⟩)⟩))
theorem cl3 : clF 3 RX3 TX3 3 tyX3 := ⟨rfl, clA3, tyX3_ok, nmX3⟩
set_option maxRecDepth 100000 in
theorem clA4 : ∀ w ∈ u_ws RX4 TX4 3, w ∈ tG := (show ∀ w ∈ [u_lay RX4 TX4 0, u_lay RX4 TX4 1, u_lay RX4 TX4 2], w ∈ tG from (List.forall_mem_cons.2 ⟨(tG_of (tb1 (List.mem_of_getElem? (i := 60) rfl)) (by decide +kernel)), (List.forall_mem_cons.2 ⟨(tG_of (tb1 (List.mem_of_getElem? (i := 62) rfl)) (by decide +kernel)), (List.forall_mem_cons.2 ⟨(tG_of (tb1 (List.mem_of_getElem? (i := 64) rfl)) (by decide +kernel)), (fun _ h => absurd h (List.not_mem_nil))⟩)⟩)⟩))
theorem cl4 : clF 4 RX4 TX4 3 tyX4 := ⟨rfl, clA4, tyX4_ok, nmX4⟩
set_option maxRecDepth 100000 in
theorem clA5 : ∀ w ∈ u_ws RX5 TX5 10, w ∈ tG := (show ∀ w ∈ [u_lay RX5 TX5 0, u_lay RX5 TX5 1, u_lay RX5 TX5 2, u_lay RX5 TX5 3, u_lay RX5 TX5 4, u_lay RX5 TX5 5, u_lay RX5 TX5 6, u_lay RX5 TX5 7, u_lay RX5 TX5 8, u_lay RX5 TX5 9], w ∈ tG from (List.forall_mem_cons.2 ⟨(tG_of (tb2 (List.mem_of_getElem? (i := 1) rfl)) (by decide +kernel)), (List.forall_mem_cons.2 ⟨(tG_of (tb2 (List.mem_of_getElem? (i := 3) rfl)) (by decide +kernel)), (List.forall_mem_cons.2 ⟨(tG_of (tb2 (List.mem_of_getElem? (i := 5) rfl)) (by decide +kernel)), (List.forall_mem_cons.2 ⟨(tG_of (tb2 (List.mem_of_getElem? (i := 7) rfl)) (by decide +kernel)), (List.forall_mem_cons.2 ⟨(tG_of (tb2 (List.mem_of_getElem? (i := 9) rfl)) (by decide +kernel)), (List.forall_mem_cons.2 ⟨(tG_of (tb2 (List.mem_of_getElem? (i := 11) rfl)) (by decide +kernel)), (List.forall_mem_cons.2 ⟨(tG_of (tb2 (List.mem_of_getElem? (i := 13) rfl)) (by decide +kernel)), (List.forall_mem_cons.2 ⟨(tG_of (tb2 (List.mem_of_getElem? (i := 15) rfl)) (by decide +kernel)), (List.forall_mem_cons.2 ⟨(tG_of (tb2 (List.mem_of_getElem? (i := 17) rfl)) (by decide +kernel)), (List.forall_mem_cons.2 ⟨(tG_of (tb2 (List.mem_of_getElem? (i := 19) rfl)) (by decide +kernel)), (fun _ h => absurd h (List.not_mem_nil))⟩)⟩)⟩)⟩)⟩)⟩)⟩)⟩)⟩)⟩))
theorem cl5 : clF 5 RX5 TX5 10 tyX5 := ⟨rfl, clA5, tyX5_ok, nmX5⟩
set_option maxRecDepth 100000 in
theorem clA6 : ∀ w ∈ u_ws RX6 TX6 9, w ∈ tG := (show ∀ w ∈ [u_lay RX6 TX6 0, u_lay RX6 TX6 1, u_lay RX6 TX6 2, u_lay RX6 TX6 3, u_lay RX6 TX6 4, u_lay RX6 TX6 5, u_lay RX6 TX6 6, u_lay RX6 TX6 7, u_lay RX6 TX6 8], w ∈ tG from (List.forall_mem_cons.2 ⟨(tG_of (tb2 (List.mem_of_getElem? (i := 39) rfl)) (by decide +kernel)), (List.forall_mem_cons.2 ⟨(tG_of (tb2 (List.mem_of_getElem? (i := 41) rfl)) (by decide +kernel)), (List.forall_mem_cons.2 ⟨(tG_of (tb2 (List.mem_of_getElem? (i := 43) rfl)) (by decide +kernel)), (List.forall_mem_cons.2 ⟨(tG_of (tb2 (List.mem_of_getElem? (i := 45) rfl)) (by decide +kernel)), (List.forall_mem_cons.2 ⟨(tG_of (tb2 (List.mem_of_getElem? (i := 47) rfl)) (by decide +kernel)), (List.forall_mem_cons.2 ⟨(tG_of (tb2 (List.mem_of_getElem? (i := 49) rfl)) (by decide +kernel)), (List.forall_mem_cons.2 ⟨(tG_of (tb2 (List.mem_of_getElem? (i := 51) rfl)) (by decide +kernel)), (List.forall_mem_cons.2 ⟨(tG_of (tb2 (List.mem_of_getElem? (i := 53) rfl)) (by decide +kernel)), (List.forall_mem_cons.2 ⟨(tG_of (tb2 (List.mem_of_getElem? (i := 55) rfl)) (by decide +kernel)), (fun _ h => absurd h (List.not_mem_nil))⟩)⟩)⟩)⟩)⟩)⟩)⟩)⟩)⟩))
theorem cl6 : clF 6 RX6 TX6 9 tyX6 := ⟨rfl, clA6, tyX6_ok, nmX6⟩
set_option maxRecDepth 100000 in
theorem clA7 : ∀ w ∈ u_ws RX7 TX7 2, w ∈ tG := (show ∀ w ∈ [u_lay RX7 TX7 0, u_lay RX7 TX7 1], w ∈ tG from (List.forall_mem_cons.2 ⟨(tG_of (tb1 (List.mem_of_getElem? (i := 39) rfl)) (by decide +kernel)), (List.forall_mem_cons.2 ⟨(tG_of (tb1 (List.mem_of_getElem? (i := 41) rfl)) (by decide +kernel)), (fun _ h => absurd h (List.not_mem_nil))⟩)⟩))
theorem cl7 : clF 7 RX7 TX7 2 tyX7 := ⟨rfl, clA7, tyX7_ok, nmX7⟩
set_option maxRecDepth 100000 in
theorem clA8 : ∀ w ∈ u_ws RX8 TX8 7, w ∈ tG := (show ∀ w ∈ [u_lay RX8 TX8 0, u_lay RX8 TX8 1, u_lay RX8 TX8 2, u_lay RX8 TX8 3, u_lay RX8 TX8 4, u_lay RX8 TX8 5, u_lay RX8 TX8 6], w ∈ tG from (List.forall_mem_cons.2 ⟨(tG_of (tb2 (List.mem_of_getElem? (i := 72) rfl)) (by decide +kernel)), (List.forall_mem_cons.2 ⟨(tG_of (tb2 (List.mem_of_getElem? (i := 74) rfl)) (by decide +kernel)), (List.forall_mem_cons.2 ⟨(tG_of (tb2 (List.mem_of_getElem? (i := 76) rfl)) (by decide +kernel)), (List.forall_mem_cons.2 ⟨(tG_of (tb2 (List.mem_of_getElem? (i := 78) rfl)) (by decide +kernel)), (List.forall_mem_cons.2 ⟨(tG_of (tb2 (List.mem_of_getElem? (i := 80) rfl)) (by decide +kernel)), (List.forall_mem_cons.2 ⟨(tG_of (tb2 (List.mem_of_getElem? (i := 82) rfl)) (by decide +kernel)), (List.forall_mem_cons.2 ⟨(tG_of (tb2 (List.mem_of_getElem? (i := 84) rfl)) (by decide +kernel)), (fun _ h => absurd h (List.not_mem_nil))⟩)⟩)⟩)⟩)⟩)⟩)⟩))
theorem cl8 : clF 8 RX8 TX8 7 tyX8 := ⟨rfl, clA8, tyX8_ok, nmX8⟩
set_option maxRecDepth 100000 in
theorem clA9 : ∀ w ∈ u_ws RX9 TX9 3, w ∈ tG := (show ∀ w ∈ [u_lay RX9 TX9 0, u_lay RX9 TX9 1, u_lay RX9 TX9 2], w ∈ tG from (List.forall_mem_cons.2 ⟨(tG_of (tb1 (List.mem_of_getElem? (i := 172) rfl)) (by decide +kernel)), (List.forall_mem_cons.2 ⟨(tG_of (tb1 (List.mem_of_getElem? (i := 174) rfl)) (by decide +kernel)), (List.forall_mem_cons.2 ⟨(tG_of (tb1 (List.mem_of_getElem? (i := 176) rfl)) (by decide +kernel)), (fun _ h => absurd h (List.not_mem_nil))⟩)⟩)⟩))
theorem cl9 : clF 9 RX9 TX9 3 tyX9 := ⟨rfl, clA9, tyX9_ok, nmX9⟩
set_option maxRecDepth 100000 in
theorem clA10 : ∀ w ∈ u_ws RX10 TX10 18, w ∈ tG := (show ∀ w ∈ [u_lay RX10 TX10 0, u_lay RX10 TX10 1, u_lay RX10 TX10 2, u_lay RX10 TX10 3, u_lay RX10 TX10 4, u_lay RX10 TX10 5, u_lay RX10 TX10 6, u_lay RX10 TX10 7, u_lay RX10 TX10 8, u_lay RX10 TX10 9, u_lay RX10 TX10 10, u_lay RX10 TX10 11, u_lay RX10 TX10 12, u_lay RX10 TX10 13, u_lay RX10 TX10 14, u_lay RX10 TX10 15, u_lay RX10 TX10 16, u_lay RX10 TX10 17], w ∈ tG from (List.forall_mem_cons.2 ⟨(tG_of (tb2 (List.mem_of_getElem? (i := 105) rfl)) (by decide +kernel)), (List.forall_mem_cons.2 ⟨(tG_of (tb2 (List.mem_of_getElem? (i := 107) rfl)) (by decide +kernel)), (List.forall_mem_cons.2 ⟨(tG_of (tb2 (List.mem_of_getElem? (i := 109) rfl)) (by decide +kernel)), (List.forall_mem_cons.2 ⟨(tG_of (tb2 (List.mem_of_getElem? (i := 111) rfl)) (by decide +kernel)), (List.forall_mem_cons.2 ⟨(tG_of (tb2 (List.mem_of_getElem? (i := 113) rfl)) (by decide +kernel)), (List.forall_mem_cons.2 ⟨(tG_of (tb2 (List.mem_of_getElem? (i := 115) rfl)) (by decide +kernel)), (List.forall_mem_cons.2 ⟨(tG_of (tb2 (List.mem_of_getElem? (i := 117) rfl)) (by decide +kernel)), (List.forall_mem_cons.2 ⟨(tG_of (tb2 (List.mem_of_getElem? (i := 119) rfl)) (by decide +kernel)), (List.forall_mem_cons.2 ⟨(tG_of (tb2 (List.mem_of_getElem? (i := 121) rfl)) (by decide +kernel)), (List.forall_mem_cons.2 ⟨(tG_of (tb2 (List.mem_of_getElem? (i := 123) rfl)) (by decide +kernel)), (List.forall_mem_cons.2 ⟨(tG_of (tb2 (List.mem_of_getElem? (i := 125) rfl)) (by decide +kernel)), (List.forall_mem_cons.2 ⟨(tG_of (tb2 (List.mem_of_getElem? (i := 127) rfl)) (by decide +kernel)), (List.forall_mem_cons.2 ⟨(tG_of (tb2 (List.mem_of_getElem? (i := 129) rfl)) (by decide +kernel)), (List.forall_mem_cons.2 ⟨(tG_of (tb2 (List.mem_of_getElem? (i := 131) rfl)) (by decide +kernel)), (List.forall_mem_cons.2 ⟨(tG_of (tb2 (List.mem_of_getElem? (i := 133) rfl)) (by decide +kernel)), (List.forall_mem_cons.2 ⟨(tG_of (tb2 (List.mem_of_getElem? (i := 135) rfl)) (by decide +kernel)), (List.forall_mem_cons.2 ⟨(tG_of (tb2 (List.mem_of_getElem? (i := 137) rfl)) (by decide +kernel)), (List.forall_mem_cons.2 ⟨(tG_of (tb2 (List.mem_of_getElem? (i := 139) rfl)) (by decide +kernel)), (fun _ h => absurd h (List.not_mem_nil))⟩)⟩)⟩)⟩)⟩)⟩)⟩)⟩)⟩)⟩)⟩)⟩)⟩)⟩)⟩)⟩)⟩)⟩))
theorem cl10 : clF 10 RX10 TX10 18 tyX10 := ⟨rfl, clA10, tyX10_ok, nmX10⟩
set_option maxRecDepth 100000 in
theorem clA11 : ∀ w ∈ u_ws RX11 TX11 54, w ∈ tG := (show ∀ w ∈ [u_lay RX11 TX11 0, u_lay RX11 TX11 1, u_lay RX11 TX11 2, u_lay RX11 TX11 3, u_lay RX11 TX11 4, u_lay RX11 TX11 5, u_lay RX11 TX11 6, u_lay RX11 TX11 7, u_lay RX11 TX11 8, u_lay RX11 TX11 9, u_lay RX11 TX11 10, u_lay RX11 TX11 11, u_lay RX11 TX11 12, u_lay RX11 TX11 13, u_lay RX11 TX11 14, u_lay RX11 TX11 15, u_lay RX11 TX11 16, u_lay RX11 TX11 17, u_lay RX11 TX11 18, u_lay RX11 TX11 19, u_lay RX11 TX11 20, u_lay RX11 TX11 21, u_lay RX11 TX11 22, u_lay RX11 TX11 23, u_lay RX11 TX11 24, u_lay RX11 TX11 25, u_lay RX11 TX11 26, u_lay RX11 TX11 27, u_lay RX11 TX11 28, u_lay RX11 TX11 29, u_lay RX11 TX11 30, u_lay RX11 TX11 31, u_lay RX11 TX11 32, u_lay RX11 TX11 33, u_lay RX11 TX11 34, u_lay RX11 TX11 35, u_lay RX11 TX11 36, u_lay RX11 TX11 37, u_lay RX11 TX11 38, u_lay RX11 TX11 39, u_lay RX11 TX11 40, u_lay RX11 TX11 41, u_lay RX11 TX11 42, u_lay RX11 TX11 43, u_lay RX11 TX11 44, u_lay RX11 TX11 45, u_lay RX11 TX11 46, u_lay RX11 TX11 47, u_lay RX11 TX11 48, u_lay RX11 TX11 49, u_lay RX11 TX11 50, u_lay RX11 TX11 51, u_lay RX11 TX11 52, u_lay RX11 TX11 53], w ∈ tG from (List.forall_mem_cons.2 ⟨(tG_of (tb5 (List.mem_of_getElem? (i := 162) rfl)) (by decide +kernel)), (List.forall_mem_cons.2 ⟨(tG_of (tb5 (List.mem_of_getElem? (i := 164) rfl)) (by decide +kernel)), (List.forall_mem_cons.2 ⟨(tG_of (tb5 (List.mem_of_getElem? (i := 166) rfl)) (by decide +kernel)), (List.forall_mem_cons.2 ⟨(tG_of (tb5 (List.mem_of_getElem? (i := 168) rfl)) (by decide +kernel)), (List.forall_mem_cons.2 ⟨(tG_of (tb5 (List.mem_of_getElem? (i := 170) rfl)) (by decide +kernel)), (List.forall_mem_cons.2 ⟨(tG_of (tb5 (List.mem_of_getElem? (i := 172) rfl)) (by decide +kernel)), (List.forall_mem_cons.2 ⟨(tG_of (tb5 (List.mem_of_getElem? (i := 174) rfl)) (by decide +kernel)), (List.forall_mem_cons.2 ⟨(tG_of (tb5 (List.mem_of_getElem? (i := 176) rfl)) (by decide +kernel)), (List.forall_mem_cons.2 ⟨(tG_of (tb5 (List.mem_of_getElem? (i := 178) rfl)) (by decide +kernel)), (List.forall_mem_cons.2 ⟨(tG_of (tb5 (List.mem_of_getElem? (i := 180) rfl)) (by decide +kernel)), (List.forall_mem_cons.2 ⟨(tG_of (tb5 (List.mem_of_getElem? (i := 182) rfl)) (by decide +kernel)), (List.forall_mem_cons.2 ⟨(tG_of (tb5 (List.mem_of_getElem? (i := 184) rfl)) (by decide +kernel)), (List.forall_mem_cons.2 ⟨(tG_of (tb5 (List.mem_of_getElem? (i := 186) rfl)) (by decide +kernel)), (List.forall_mem_cons.2 ⟨(tG_of (tb5 (List.mem_of_getElem? (i := 188) rfl)) (by decide +kernel)), (List.forall_mem_cons.2 ⟨(tG_of (tb5 (List.mem_of_getElem? (i := 190) rfl)) (by decide +kernel)), (List.forall_mem_cons.2 ⟨(tG_of (tb5 (List.mem_of_getElem? (i := 192) rfl)) (by decide +kernel)), (List.forall_mem_cons.2 ⟨(tG_of (tb5 (List.mem_of_getElem? (i := 194) rfl)) (by decide +kernel)), (List.forall_mem_cons.2 ⟨(tG_of (tb5 (List.mem_of_getElem? (i := 196) rfl)) (by decide +kernel)), (List.forall_mem_cons.2 ⟨(tG_of (tb5 (List.mem_of_getElem? (i := 198) rfl)) (by decide +kernel)), (List.forall_mem_cons.2 ⟨(tG_of (tb5 (List.mem_of_getElem? (i := 200) rfl)) (by decide +kernel)), (List.forall_mem_cons.2 ⟨(tG_of (tb5 (List.mem_of_getElem? (i := 202) rfl)) (by decide +kernel)), (List.forall_mem_cons.2 ⟨(tG_of (tb5 (List.mem_of_getElem? (i := 204) rfl)) (by decide +kernel)), (List.forall_mem_cons.2 ⟨(tG_of (tb5 (List.mem_of_getElem? (i := 206) rfl)) (by decide +kernel)), (List.forall_mem_cons.2 ⟨(tG_of (tb5 (List.mem_of_getElem? (i := 208) rfl)) (by decide +kernel)), (List.forall_mem_cons.2 ⟨(tG_of (tb5 (List.mem_of_getElem? (i := 210) rfl)) (by decide +kernel)), (List.forall_mem_cons.2 ⟨(tG_of (tb5 (List.mem_of_getElem? (i := 212) rfl)) (by decide +kernel)), (List.forall_mem_cons.2 ⟨(tG_of (tb5 (List.mem_of_getElem? (i := 214) rfl)) (by decide +kernel)), (List.forall_mem_cons.2 ⟨(tG_of (tb5 (List.mem_of_getElem? (i := 216) rfl)) (by decide +kernel)), (List.forall_mem_cons.2 ⟨(tG_of (tb5 (List.mem_of_getElem? (i := 218) rfl)) (by decide +kernel)), (List.forall_mem_cons.2 ⟨(tG_of (tb5 (List.mem_of_getElem? (i := 220) rfl)) (by decide +kernel)), (List.forall_mem_cons.2 ⟨(tG_of (tb5 (List.mem_of_getElem? (i := 222) rfl)) (by decide +kernel)), (List.forall_mem_cons.2 ⟨(tG_of (tb5 (List.mem_of_getElem? (i := 224) rfl)) (by decide +kernel)), (List.forall_mem_cons.2 ⟨(tG_of (tb5 (List.mem_of_getElem? (i := 226) rfl)) (by decide +kernel)), (List.forall_mem_cons.2 ⟨(tG_of (tb5 (List.mem_of_getElem? (i := 228) rfl)) (by decide +kernel)), (List.forall_mem_cons.2 ⟨(tG_of (tb5 (List.mem_of_getElem? (i := 230) rfl)) (by decide +kernel)), (List.forall_mem_cons.2 ⟨(tG_of (tb5 (List.mem_of_getElem? (i := 232) rfl)) (by decide +kernel)), (List.forall_mem_cons.2 ⟨(tG_of (tb5 (List.mem_of_getElem? (i := 234) rfl)) (by decide +kernel)), (List.forall_mem_cons.2 ⟨(tG_of (tb5 (List.mem_of_getElem? (i := 236) rfl)) (by decide +kernel)), (List.forall_mem_cons.2 ⟨(tG_of (tb5 (List.mem_of_getElem? (i := 238) rfl)) (by decide +kernel)), (List.forall_mem_cons.2 ⟨(tG_of (tb6 (List.mem_of_getElem? (i := 0) rfl)) (by decide +kernel)), (List.forall_mem_cons.2 ⟨(tG_of (tb6 (List.mem_of_getElem? (i := 2) rfl)) (by decide +kernel)), (List.forall_mem_cons.2 ⟨(tG_of (tb6 (List.mem_of_getElem? (i := 4) rfl)) (by decide +kernel)), (List.forall_mem_cons.2 ⟨(tG_of (tb6 (List.mem_of_getElem? (i := 6) rfl)) (by decide +kernel)), (List.forall_mem_cons.2 ⟨(tG_of (tb6 (List.mem_of_getElem? (i := 8) rfl)) (by decide +kernel)), (List.forall_mem_cons.2 ⟨(tG_of (tb6 (List.mem_of_getElem? (i := 10) rfl)) (by decide +kernel)), (List.forall_mem_cons.2 ⟨(tG_of (tb6 (List.mem_of_getElem? (i := 12) rfl)) (by decide +kernel)), (List.forall_mem_cons.2 ⟨(tG_of (tb6 (List.mem_of_getElem? (i := 14) rfl)) (by decide +kernel)), (List.forall_mem_cons.2 ⟨(tG_of (tb6 (List.mem_of_getElem? (i := 16) rfl)) (by decide +kernel)), (List.forall_mem_cons.2 ⟨(tG_of (tb6 (List.mem_of_getElem? (i := 18) rfl)) (by decide +kernel)), (List.forall_mem_cons.2 ⟨(tG_of (tb6 (List.mem_of_getElem? (i := 20) rfl)) (by decide +kernel)), (List.forall_mem_cons.2 ⟨(tG_of (tb6 (List.mem_of_getElem? (i := 22) rfl)) (by decide +kernel)), (List.forall_mem_cons.2 ⟨(tG_of (tb6 (List.mem_of_getElem? (i := 24) rfl)) (by decide +kernel)), (List.forall_mem_cons.2 ⟨(tG_of (tb6 (List.mem_of_getElem? (i := 26) rfl)) (by decide +kernel)), (List.forall_mem_cons.2 ⟨(tG_of (tb6 (List.mem_of_getElem? (i := 28) rfl)) (by decide +kernel)), (fun _ h => absurd h (List.not_mem_nil))⟩)⟩)⟩)⟩)⟩)⟩)⟩)⟩)⟩)⟩)⟩)⟩)⟩)⟩)⟩)⟩)⟩)⟩)⟩)⟩)⟩)⟩)⟩)⟩)⟩)⟩)⟩)⟩)⟩)⟩)⟩)⟩)⟩)⟩)⟩)⟩)⟩)⟩)⟩)⟩)⟩)⟩)⟩)⟩)⟩)⟩)⟩)⟩)⟩)⟩)⟩)⟩)⟩)⟩))
theorem cl11 : clF 11 RX11 TX11 54 tyX11 := ⟨rfl, clA11, tyX11_ok, nmX11⟩
set_option maxRecDepth 100000 in
theorem fl_X10_10 : fL RX10 10 10 0 (.object "UnderFloor$Text") true := ⟨RX10, TX10, 18, tyX10, cl10, Nat.le_of_ble_eq_true rfl, rfl, rfl, Or.inl (tG_of (tb2 (List.mem_of_getElem? (i := 87) rfl)) (by decide +kernel))⟩
set_option maxRecDepth 100000 in
theorem fl_X10_21 : fL RX10 21 10 1 (.object "UnderFloor$Reader") true := ⟨RX10, TX10, 18, tyX10, cl10, Nat.le_of_ble_eq_true rfl, rfl, rfl, Or.inl (tG_of (tb2 (List.mem_of_getElem? (i := 88) rfl)) (by decide +kernel))⟩
set_option maxRecDepth 100000 in
theorem fl_X10_30 : fL RX10 30 10 2 (.object "UnderFloor$Law") true := ⟨RX10, TX10, 18, tyX10, cl10, Nat.le_of_ble_eq_true rfl, rfl, rfl, Or.inl (tG_of (tb2 (List.mem_of_getElem? (i := 89) rfl)) (by decide +kernel))⟩
set_option maxRecDepth 100000 in
theorem fl_X10_37 : fL RX10 37 10 3 (.object "UnderFloor$Cellar") true := ⟨RX10, TX10, 18, tyX10, cl10, Nat.le_of_ble_eq_true rfl, rfl, rfl, Or.inl (tG_of (tb2 (List.mem_of_getElem? (i := 90) rfl)) (by decide +kernel))⟩
set_option maxRecDepth 100000 in
theorem fl_X10_41 : fL RX10 41 10 4 (.object "UnderFloor$Cellar") true := ⟨RX10, TX10, 18, tyX10, cl10, Nat.le_of_ble_eq_true rfl, rfl, rfl, Or.inl (tG_of (tb2 (List.mem_of_getElem? (i := 91) rfl)) (by decide +kernel))⟩
set_option maxRecDepth 100000 in
theorem fl_X10_44 : fL RX10 44 10 5 (.object "UnderFloor$Cellar") true := ⟨RX10, TX10, 18, tyX10, cl10, Nat.le_of_ble_eq_true rfl, rfl, rfl, Or.inl (tG_of (tb2 (List.mem_of_getElem? (i := 92) rfl)) (by decide +kernel))⟩
set_option maxRecDepth 100000 in
theorem fl_X10_49 : fL RX10 49 10 6 (.array (.object "UnderFloor$Play")) true := ⟨RX10, TX10, 18, tyX10, cl10, Nat.le_of_ble_eq_true rfl, rfl, rfl, Or.inl (tG_of (tb2 (List.mem_of_getElem? (i := 93) rfl)) (by decide +kernel))⟩
set_option maxRecDepth 100000 in
theorem fl_X10_54 : fL RX10 54 10 7 (.object "UnderFloor$Play") true := ⟨RX10, TX10, 18, tyX10, cl10, Nat.le_of_ble_eq_true rfl, rfl, rfl, Or.inl (tG_of (tb2 (List.mem_of_getElem? (i := 94) rfl)) (by decide +kernel))⟩
set_option maxRecDepth 100000 in
theorem fl_X10_58 : fL RX10 58 10 8 (.array (.object "UnderFloor$Text")) true := ⟨RX10, TX10, 18, tyX10, cl10, Nat.le_of_ble_eq_true rfl, rfl, rfl, Or.inl (tG_of (tb2 (List.mem_of_getElem? (i := 95) rfl)) (by decide +kernel))⟩
set_option maxRecDepth 100000 in
theorem fl_X10_65 : fL RX10 65 10 9 (.object "UnderFloor$Ways") true := ⟨RX10, TX10, 18, tyX10, cl10, Nat.le_of_ble_eq_true rfl, rfl, rfl, Or.inl (tG_of (tb2 (List.mem_of_getElem? (i := 96) rfl)) (by decide +kernel))⟩
set_option maxRecDepth 100000 in
theorem fl_X10_74 : fL RX10 74 10 10 (.object "UnderFloor$Job") true := ⟨RX10, TX10, 18, tyX10, cl10, Nat.le_of_ble_eq_true rfl, rfl, rfl, Or.inl (tG_of (tb2 (List.mem_of_getElem? (i := 97) rfl)) (by decide +kernel))⟩
set_option maxRecDepth 100000 in
theorem fl_X10_78 : fL RX10 78 10 11 (.object "UnderFloor$Job") true := ⟨RX10, TX10, 18, tyX10, cl10, Nat.le_of_ble_eq_true rfl, rfl, rfl, Or.inl (tG_of (tb2 (List.mem_of_getElem? (i := 98) rfl)) (by decide +kernel))⟩
set_option maxRecDepth 100000 in
theorem fl_X10_84 : fL RX10 84 10 12 (.object "UnderFloor$Run") true := ⟨RX10, TX10, 18, tyX10, cl10, Nat.le_of_ble_eq_true rfl, rfl, rfl, Or.inl (tG_of (tb2 (List.mem_of_getElem? (i := 99) rfl)) (by decide +kernel))⟩
set_option maxRecDepth 100000 in
theorem fl_X10_93 : fL RX10 93 10 13 (.object "UnderFloor$Search") true := ⟨RX10, TX10, 18, tyX10, cl10, Nat.le_of_ble_eq_true rfl, rfl, rfl, Or.inl (tG_of (tb2 (List.mem_of_getElem? (i := 100) rfl)) (by decide +kernel))⟩
set_option maxRecDepth 100000 in
theorem fl_X10_100 : fL RX10 100 10 14 (.object "UnderFloor$Thuds") true := ⟨RX10, TX10, 18, tyX10, cl10, Nat.le_of_ble_eq_true rfl, rfl, rfl, Or.inl (tG_of (tb2 (List.mem_of_getElem? (i := 101) rfl)) (by decide +kernel))⟩
set_option maxRecDepth 100000 in
theorem fl_X10_104 : fL RX10 104 10 17 .int false := ⟨RX10, TX10, 18, tyX10, cl10, Nat.le_of_ble_eq_true rfl, rfl, rfl, Or.inl (tG_of (tb2 (List.mem_of_getElem? (i := 104) rfl)) (by decide +kernel))⟩
set_option maxRecDepth 100000 in
theorem fl_X10_112 : fL RX10 112 7 1 .int false := ⟨RX7, TX7, 2, tyX7, cl7, Nat.le_of_ble_eq_true rfl, rfl, rfl, Or.inr ⟨"UnderFloor", (tb1 (List.mem_of_getElem? (i := 36) rfl))⟩⟩
set_option maxRecDepth 100000 in
theorem fl_X10_153 : fL RX10 153 8 2 .int false := ⟨RX8, TX8, 7, tyX8, cl8, Nat.le_of_ble_eq_true rfl, rfl, rfl, Or.inr ⟨"UnderFloor", (tb2 (List.mem_of_getElem? (i := 67) rfl))⟩⟩
set_option maxRecDepth 100000 in
theorem fl_X10_156 : fL RX10 156 0 5 .int false := ⟨RX0, TX0, 9, tyX0, cl0, Nat.le_of_ble_eq_true rfl, rfl, rfl, Or.inr ⟨"UnderFloor", (tb1 (List.mem_of_getElem? (i := 110) rfl))⟩⟩
set_option maxRecDepth 100000 in
theorem fl_X10_159 : fL RX10 159 10 15 .int false := ⟨RX10, TX10, 18, tyX10, cl10, Nat.le_of_ble_eq_true rfl, rfl, rfl, Or.inl (tG_of (tb2 (List.mem_of_getElem? (i := 102) rfl)) (by decide +kernel))⟩
set_option maxRecDepth 100000 in
theorem fl_X10_162 : fL RX10 162 10 16 .int false := ⟨RX10, TX10, 18, tyX10, cl10, Nat.le_of_ble_eq_true rfl, rfl, rfl, Or.inl (tG_of (tb2 (List.mem_of_getElem? (i := 103) rfl)) (by decide +kernel))⟩
set_option maxRecDepth 100000 in
theorem fl_X10_211 : fL RX10 211 0 6 .int false := ⟨RX0, TX0, 9, tyX0, cl0, Nat.le_of_ble_eq_true rfl, rfl, rfl, Or.inr ⟨"UnderFloor", (tb1 (List.mem_of_getElem? (i := 112) rfl))⟩⟩
set_option maxRecDepth 100000 in
theorem fl_X10_214 : fL RX10 214 0 3 .int false := ⟨RX0, TX0, 9, tyX0, cl0, Nat.le_of_ble_eq_true rfl, rfl, rfl, Or.inr ⟨"UnderFloor", (tb1 (List.mem_of_getElem? (i := 107) rfl))⟩⟩
set_option maxRecDepth 100000 in
theorem fl_X10_220 : fL RX10 220 0 7 .int false := ⟨RX0, TX0, 9, tyX0, cl0, Nat.le_of_ble_eq_true rfl, rfl, rfl, Or.inr ⟨"UnderFloor", (tb1 (List.mem_of_getElem? (i := 115) rfl))⟩⟩
set_option maxRecDepth 100000 in
theorem fl_X10_223 : fL RX10 223 0 8 .int false := ⟨RX0, TX0, 9, tyX0, cl0, Nat.le_of_ble_eq_true rfl, rfl, rfl, Or.inr ⟨"UnderFloor", (tb1 (List.mem_of_getElem? (i := 117) rfl))⟩⟩
set_option maxRecDepth 100000 in
theorem fl_X10_230 : fL RX10 230 3 2 .int false := ⟨RX3, TX3, 3, tyX3, cl3, Nat.le_of_ble_eq_true rfl, rfl, rfl, Or.inr ⟨"UnderFloor", (tb1 (List.mem_of_getElem? (i := 154) rfl))⟩⟩
set_option maxRecDepth 100000 in
theorem fl_X10_235 : fL RX10 235 1 2 (.array .int) true := ⟨RX1, TX1, 7, tyX1, cl1, Nat.le_of_ble_eq_true rfl, rfl, rfl, Or.inr ⟨"UnderFloor", (tb1 (List.mem_of_getElem? (i := 192) rfl))⟩⟩
set_option maxRecDepth 100000 in
theorem fl_X10_243 : fL RX10 243 3 0 (.array .int) true := ⟨RX3, TX3, 3, tyX3, cl3, Nat.le_of_ble_eq_true rfl, rfl, rfl, Or.inr ⟨"UnderFloor", (tb1 (List.mem_of_getElem? (i := 147) rfl))⟩⟩
set_option maxRecDepth 100000 in
theorem fl_X10_246 : fL RX10 246 3 1 (.array .int) true := ⟨RX3, TX3, 3, tyX3, cl3, Nat.le_of_ble_eq_true rfl, rfl, rfl, Or.inr ⟨"UnderFloor", (tb1 (List.mem_of_getElem? (i := 150) rfl))⟩⟩
set_option maxRecDepth 100000 in
theorem fl_X10_252 : fL RX10 252 5 4 .int false := ⟨RX5, TX5, 10, tyX5, cl5, Nat.le_of_ble_eq_true rfl, rfl, rfl, Or.inr ⟨"UnderFloor", (tb1 (List.mem_of_getElem? (i := 230) rfl))⟩⟩
set_option maxRecDepth 100000 in
theorem fl_X10_255 : fL RX10 255 5 5 .int false := ⟨RX5, TX5, 10, tyX5, cl5, Nat.le_of_ble_eq_true rfl, rfl, rfl, Or.inr ⟨"UnderFloor", (tb1 (List.mem_of_getElem? (i := 232) rfl))⟩⟩
set_option maxRecDepth 100000 in
theorem fl_X10_258 : fL RX10 258 5 6 .int false := ⟨RX5, TX5, 10, tyX5, cl5, Nat.le_of_ble_eq_true rfl, rfl, rfl, Or.inr ⟨"UnderFloor", (tb1 (List.mem_of_getElem? (i := 234) rfl))⟩⟩
set_option maxRecDepth 100000 in
theorem fl_X10_261 : fL RX10 261 5 7 .int false := ⟨RX5, TX5, 10, tyX5, cl5, Nat.le_of_ble_eq_true rfl, rfl, rfl, Or.inr ⟨"UnderFloor", (tb1 (List.mem_of_getElem? (i := 236) rfl))⟩⟩
set_option maxRecDepth 100000 in
theorem fl_X10_264 : fL RX10 264 1 5 .int false := ⟨RX1, TX1, 7, tyX1, cl1, Nat.le_of_ble_eq_true rfl, rfl, rfl, Or.inr ⟨"UnderFloor", (tb1 (List.mem_of_getElem? (i := 199) rfl))⟩⟩
set_option maxRecDepth 100000 in
theorem fl_X10_265 : fL RX10 265 5 1 (.array .int) true := ⟨RX5, TX5, 10, tyX5, cl5, Nat.le_of_ble_eq_true rfl, rfl, rfl, Or.inr ⟨"UnderFloor", (tb1 (List.mem_of_getElem? (i := 225) rfl))⟩⟩
set_option maxRecDepth 100000 in
theorem fl_X10_268 : fL RX10 268 5 2 (.array .int) true := ⟨RX5, TX5, 10, tyX5, cl5, Nat.le_of_ble_eq_true rfl, rfl, rfl, Or.inr ⟨"UnderFloor", (tb1 (List.mem_of_getElem? (i := 227) rfl))⟩⟩
set_option maxRecDepth 100000 in
theorem fl_X10_278 : fL RX10 278 5 8 .int false := ⟨RX5, TX5, 10, tyX5, cl5, Nat.le_of_ble_eq_true rfl, rfl, rfl, Or.inr ⟨"UnderFloor", (tb1 (List.mem_of_getElem? (i := 238) rfl))⟩⟩
set_option maxRecDepth 100000 in
theorem fl_X10_281 : fL RX10 281 5 9 .int false := ⟨RX5, TX5, 10, tyX5, cl5, Nat.le_of_ble_eq_true rfl, rfl, rfl, Or.inr ⟨"UnderFloor", (tb2 (List.mem_of_getElem? (i := 0) rfl))⟩⟩
set_option maxRecDepth 100000 in
theorem fl_X10_310 : fL RX10 310 6 8 .int false := ⟨RX6, TX6, 9, tyX6, cl6, Nat.le_of_ble_eq_true rfl, rfl, rfl, Or.inr ⟨"UnderFloor", (tb2 (List.mem_of_getElem? (i := 38) rfl))⟩⟩
set_option maxRecDepth 100000 in
theorem fl_X10_313 : fL RX10 313 6 7 .int false := ⟨RX6, TX6, 9, tyX6, cl6, Nat.le_of_ble_eq_true rfl, rfl, rfl, Or.inr ⟨"UnderFloor", (tb2 (List.mem_of_getElem? (i := 36) rfl))⟩⟩
set_option maxRecDepth 100000 in
theorem fl_X10_333 : fL RX10 333 1 6 .int false := ⟨RX1, TX1, 7, tyX1, cl1, Nat.le_of_ble_eq_true rfl, rfl, rfl, Or.inr ⟨"UnderFloor", (tb1 (List.mem_of_getElem? (i := 201) rfl))⟩⟩
set_option maxRecDepth 100000 in
theorem fl_X10_350 : fL RX10 350 1 3 (.array .int) true := ⟨RX1, TX1, 7, tyX1, cl1, Nat.le_of_ble_eq_true rfl, rfl, rfl, Or.inr ⟨"UnderFloor", (tb1 (List.mem_of_getElem? (i := 194) rfl))⟩⟩
set_option maxRecDepth 100000 in
theorem fl_X0_9 : fL RX0 9 0 0 (.array .int) true := ⟨RX0, TX0, 9, tyX0, cl0, Nat.le_of_ble_eq_true rfl, rfl, rfl, Or.inl (tG_of (tb1 (List.mem_of_getElem? (i := 102) rfl)) (by decide +kernel))⟩
set_option maxRecDepth 100000 in
theorem fl_X0_15 : fL RX0 15 0 1 (.array .int) true := ⟨RX0, TX0, 9, tyX0, cl0, Nat.le_of_ble_eq_true rfl, rfl, rfl, Or.inl (tG_of (tb1 (List.mem_of_getElem? (i := 103) rfl)) (by decide +kernel))⟩
set_option maxRecDepth 100000 in
theorem fl_X0_18 : fL RX0 18 0 2 (.array .int) true := ⟨RX0, TX0, 9, tyX0, cl0, Nat.le_of_ble_eq_true rfl, rfl, rfl, Or.inl (tG_of (tb1 (List.mem_of_getElem? (i := 104) rfl)) (by decide +kernel))⟩
set_option maxRecDepth 100000 in
theorem fl_X0_24 : fL RX0 24 0 3 .int false := ⟨RX0, TX0, 9, tyX0, cl0, Nat.le_of_ble_eq_true rfl, rfl, rfl, Or.inl (tG_of (tb1 (List.mem_of_getElem? (i := 105) rfl)) (by decide +kernel))⟩
set_option maxRecDepth 100000 in
theorem fl_X0_28 : fL RX0 28 0 4 .int false := ⟨RX0, TX0, 9, tyX0, cl0, Nat.le_of_ble_eq_true rfl, rfl, rfl, Or.inl (tG_of (tb1 (List.mem_of_getElem? (i := 108) rfl)) (by decide +kernel))⟩
set_option maxRecDepth 100000 in
theorem fl_X0_31 : fL RX0 31 0 5 .int false := ⟨RX0, TX0, 9, tyX0, cl0, Nat.le_of_ble_eq_true rfl, rfl, rfl, Or.inl (tG_of (tb1 (List.mem_of_getElem? (i := 109) rfl)) (by decide +kernel))⟩
set_option maxRecDepth 100000 in
theorem fl_X0_34 : fL RX0 34 0 6 .int false := ⟨RX0, TX0, 9, tyX0, cl0, Nat.le_of_ble_eq_true rfl, rfl, rfl, Or.inl (tG_of (tb1 (List.mem_of_getElem? (i := 111) rfl)) (by decide +kernel))⟩
set_option maxRecDepth 100000 in
theorem fl_X0_37 : fL RX0 37 0 7 .int false := ⟨RX0, TX0, 9, tyX0, cl0, Nat.le_of_ble_eq_true rfl, rfl, rfl, Or.inl (tG_of (tb1 (List.mem_of_getElem? (i := 114) rfl)) (by decide +kernel))⟩
set_option maxRecDepth 100000 in
theorem fl_X0_53 : fL RX0 53 4 1 .int false := ⟨RX4, TX4, 3, tyX4, cl4, Nat.le_of_ble_eq_true rfl, rfl, rfl, Or.inr ⟨"UnderFloor", (tb1 (List.mem_of_getElem? (i := 54) rfl))⟩⟩
set_option maxRecDepth 100000 in
theorem fl_X0_60 : fL RX0 60 4 2 .int false := ⟨RX4, TX4, 3, tyX4, cl4, Nat.le_of_ble_eq_true rfl, rfl, rfl, Or.inr ⟨"UnderFloor", (tb1 (List.mem_of_getElem? (i := 59) rfl))⟩⟩
set_option maxRecDepth 100000 in
theorem fl_X0_87 : fL RX0 87 0 8 .int false := ⟨RX0, TX0, 9, tyX0, cl0, Nat.le_of_ble_eq_true rfl, rfl, rfl, Or.inl (tG_of (tb1 (List.mem_of_getElem? (i := 116) rfl)) (by decide +kernel))⟩
set_option maxRecDepth 100000 in
theorem fl_X1_9 : fL RX1 9 1 1 (.array .int) true := ⟨RX1, TX1, 7, tyX1, cl1, Nat.le_of_ble_eq_true rfl, rfl, rfl, Or.inl (tG_of (tb1 (List.mem_of_getElem? (i := 186) rfl)) (by decide +kernel))⟩
set_option maxRecDepth 100000 in
theorem fl_X1_15 : fL RX1 15 1 2 (.array .int) true := ⟨RX1, TX1, 7, tyX1, cl1, Nat.le_of_ble_eq_true rfl, rfl, rfl, Or.inl (tG_of (tb1 (List.mem_of_getElem? (i := 189) rfl)) (by decide +kernel))⟩
set_option maxRecDepth 100000 in
theorem fl_X1_18 : fL RX1 18 1 3 (.array .int) true := ⟨RX1, TX1, 7, tyX1, cl1, Nat.le_of_ble_eq_true rfl, rfl, rfl, Or.inl (tG_of (tb1 (List.mem_of_getElem? (i := 193) rfl)) (by decide +kernel))⟩
set_option maxRecDepth 100000 in
theorem fl_X1_21 : fL RX1 21 1 4 (.array .int) true := ⟨RX1, TX1, 7, tyX1, cl1, Nat.le_of_ble_eq_true rfl, rfl, rfl, Or.inl (tG_of (tb1 (List.mem_of_getElem? (i := 195) rfl)) (by decide +kernel))⟩
set_option maxRecDepth 100000 in
theorem fl_X1_24 : fL RX1 24 1 0 (.object "UnderFloor$Ways") true := ⟨RX1, TX1, 7, tyX1, cl1, Nat.le_of_ble_eq_true rfl, rfl, rfl, Or.inl (tG_of (tb1 (List.mem_of_getElem? (i := 185) rfl)) (by decide +kernel))⟩
set_option maxRecDepth 100000 in
theorem fl_X1_28 : fL RX1 28 3 2 .int false := ⟨RX3, TX3, 3, tyX3, cl3, Nat.le_of_ble_eq_true rfl, rfl, rfl, Or.inr ⟨"UnderFloor", (tb1 (List.mem_of_getElem? (i := 152) rfl))⟩⟩
set_option maxRecDepth 100000 in
theorem fl_X1_34 : fL RX1 34 1 5 .int false := ⟨RX1, TX1, 7, tyX1, cl1, Nat.le_of_ble_eq_true rfl, rfl, rfl, Or.inl (tG_of (tb1 (List.mem_of_getElem? (i := 196) rfl)) (by decide +kernel))⟩
set_option maxRecDepth 100000 in
theorem fl_X1_35 : fL RX1 35 3 0 (.array .int) true := ⟨RX3, TX3, 3, tyX3, cl3, Nat.le_of_ble_eq_true rfl, rfl, rfl, Or.inr ⟨"UnderFloor", (tb1 (List.mem_of_getElem? (i := 145) rfl))⟩⟩
set_option maxRecDepth 100000 in
theorem fl_X1_44 : fL RX1 44 0 7 .int false := ⟨RX0, TX0, 9, tyX0, cl0, Nat.le_of_ble_eq_true rfl, rfl, rfl, Or.inr ⟨"UnderFloor", (tb1 (List.mem_of_getElem? (i := 113) rfl))⟩⟩
set_option maxRecDepth 100000 in
theorem fl_X1_47 : fL RX1 47 1 6 .int false := ⟨RX1, TX1, 7, tyX1, cl1, Nat.le_of_ble_eq_true rfl, rfl, rfl, Or.inl (tG_of (tb1 (List.mem_of_getElem? (i := 200) rfl)) (by decide +kernel))⟩
set_option maxRecDepth 100000 in
theorem fl_X1_48 : fL RX1 48 0 3 .int false := ⟨RX0, TX0, 9, tyX0, cl0, Nat.le_of_ble_eq_true rfl, rfl, rfl, Or.inr ⟨"UnderFloor", (tb1 (List.mem_of_getElem? (i := 106) rfl))⟩⟩
set_option maxRecDepth 100000 in
theorem fl_X2_9 : fL RX2 9 2 0 (.object "UnderFloor$Reader") true := ⟨RX2, TX2, 6, tyX2, cl2, Nat.le_of_ble_eq_true rfl, rfl, rfl, Or.inl (tG_of (tb1 (List.mem_of_getElem? (i := 73) rfl)) (by decide +kernel))⟩
set_option maxRecDepth 100000 in
theorem fl_X2_19 : fL RX2 19 4 2 .int false := ⟨RX4, TX4, 3, tyX4, cl4, Nat.le_of_ble_eq_true rfl, rfl, rfl, Or.inr ⟨"UnderFloor", (tb1 (List.mem_of_getElem? (i := 57) rfl))⟩⟩
set_option maxRecDepth 100000 in
theorem fl_X2_25 : fL RX2 25 2 3 .int false := ⟨RX2, TX2, 6, tyX2, cl2, Nat.le_of_ble_eq_true rfl, rfl, rfl, Or.inl (tG_of (tb1 (List.mem_of_getElem? (i := 76) rfl)) (by decide +kernel))⟩
set_option maxRecDepth 100000 in
theorem fl_X2_28 : fL RX2 28 3 2 .int false := ⟨RX3, TX3, 3, tyX3, cl3, Nat.le_of_ble_eq_true rfl, rfl, rfl, Or.inr ⟨"UnderFloor", (tb1 (List.mem_of_getElem? (i := 153) rfl))⟩⟩
set_option maxRecDepth 100000 in
theorem fl_X2_33 : fL RX2 33 2 5 .int false := ⟨RX2, TX2, 6, tyX2, cl2, Nat.le_of_ble_eq_true rfl, rfl, rfl, Or.inl (tG_of (tb1 (List.mem_of_getElem? (i := 78) rfl)) (by decide +kernel))⟩
set_option maxRecDepth 100000 in
theorem fl_X2_36 : fL RX2 36 3 1 (.array .int) true := ⟨RX3, TX3, 3, tyX3, cl3, Nat.le_of_ble_eq_true rfl, rfl, rfl, Or.inr ⟨"UnderFloor", (tb1 (List.mem_of_getElem? (i := 149) rfl))⟩⟩
set_option maxRecDepth 100000 in
theorem fl_X2_40 : fL RX2 40 2 1 .int false := ⟨RX2, TX2, 6, tyX2, cl2, Nat.le_of_ble_eq_true rfl, rfl, rfl, Or.inl (tG_of (tb1 (List.mem_of_getElem? (i := 74) rfl)) (by decide +kernel))⟩
set_option maxRecDepth 100000 in
theorem fl_X2_43 : fL RX2 43 2 2 .int false := ⟨RX2, TX2, 6, tyX2, cl2, Nat.le_of_ble_eq_true rfl, rfl, rfl, Or.inl (tG_of (tb1 (List.mem_of_getElem? (i := 75) rfl)) (by decide +kernel))⟩
set_option maxRecDepth 100000 in
theorem fl_X2_46 : fL RX2 46 3 0 (.array .int) true := ⟨RX3, TX3, 3, tyX3, cl3, Nat.le_of_ble_eq_true rfl, rfl, rfl, Or.inr ⟨"UnderFloor", (tb1 (List.mem_of_getElem? (i := 146) rfl))⟩⟩
set_option maxRecDepth 100000 in
theorem fl_X2_49 : fL RX2 49 2 4 .int false := ⟨RX2, TX2, 6, tyX2, cl2, Nat.le_of_ble_eq_true rfl, rfl, rfl, Or.inl (tG_of (tb1 (List.mem_of_getElem? (i := 77) rfl)) (by decide +kernel))⟩
set_option maxRecDepth 100000 in
theorem fl_X2_90 : fL RX2 90 4 1 .int false := ⟨RX4, TX4, 3, tyX4, cl4, Nat.le_of_ble_eq_true rfl, rfl, rfl, Or.inr ⟨"UnderFloor", (tb1 (List.mem_of_getElem? (i := 55) rfl))⟩⟩
set_option maxRecDepth 100000 in
theorem fl_X3_9 : fL RX3 9 3 0 (.array .int) true := ⟨RX3, TX3, 3, tyX3, cl3, Nat.le_of_ble_eq_true rfl, rfl, rfl, Or.inl (tG_of (tb1 (List.mem_of_getElem? (i := 144) rfl)) (by decide +kernel))⟩
set_option maxRecDepth 100000 in
theorem fl_X3_15 : fL RX3 15 3 1 (.array .int) true := ⟨RX3, TX3, 3, tyX3, cl3, Nat.le_of_ble_eq_true rfl, rfl, rfl, Or.inl (tG_of (tb1 (List.mem_of_getElem? (i := 148) rfl)) (by decide +kernel))⟩
set_option maxRecDepth 100000 in
theorem fl_X3_18 : fL RX3 18 3 2 .int false := ⟨RX3, TX3, 3, tyX3, cl3, Nat.le_of_ble_eq_true rfl, rfl, rfl, Or.inl (tG_of (tb1 (List.mem_of_getElem? (i := 151) rfl)) (by decide +kernel))⟩
set_option maxRecDepth 100000 in
theorem fl_X3_35 : fL RX3 35 4 2 .int false := ⟨RX4, TX4, 3, tyX4, cl4, Nat.le_of_ble_eq_true rfl, rfl, rfl, Or.inr ⟨"UnderFloor", (tb1 (List.mem_of_getElem? (i := 58) rfl))⟩⟩
set_option maxRecDepth 100000 in
theorem fl_X3_42 : fL RX3 42 4 1 .int false := ⟨RX4, TX4, 3, tyX4, cl4, Nat.le_of_ble_eq_true rfl, rfl, rfl, Or.inr ⟨"UnderFloor", (tb1 (List.mem_of_getElem? (i := 53) rfl))⟩⟩
set_option maxRecDepth 100000 in
theorem fl_X4_9 : fL RX4 9 4 0 (.object "UnderFloor$Text") false := ⟨RX4, TX4, 3, tyX4, cl4, Nat.le_of_ble_eq_true rfl, rfl, rfl, Or.inl (tG_of (tb1 (List.mem_of_getElem? (i := 51) rfl)) (by decide +kernel))⟩
set_option maxRecDepth 100000 in
theorem fl_X4_15 : fL RX4 15 4 2 .int false := ⟨RX4, TX4, 3, tyX4, cl4, Nat.le_of_ble_eq_true rfl, rfl, rfl, Or.inl (tG_of (tb1 (List.mem_of_getElem? (i := 56) rfl)) (by decide +kernel))⟩
set_option maxRecDepth 100000 in
theorem fl_X4_19 : fL RX4 19 4 1 .int false := ⟨RX4, TX4, 3, tyX4, cl4, Nat.le_of_ble_eq_true rfl, rfl, rfl, Or.inl (tG_of (tb1 (List.mem_of_getElem? (i := 52) rfl)) (by decide +kernel))⟩
set_option maxRecDepth 100000 in
theorem fl_X4_22 : fL RX4 22 7 1 .int false := ⟨RX7, TX7, 2, tyX7, cl7, Nat.le_of_ble_eq_true rfl, rfl, rfl, Or.inr ⟨"UnderFloor", (tb1 (List.mem_of_getElem? (i := 37) rfl))⟩⟩
set_option maxRecDepth 100000 in
theorem fl_X4_27 : fL RX4 27 7 0 (.array .int) true := ⟨RX7, TX7, 2, tyX7, cl7, Nat.le_of_ble_eq_true rfl, rfl, rfl, Or.inr ⟨"UnderFloor", (tb1 (List.mem_of_getElem? (i := 35) rfl))⟩⟩
set_option maxRecDepth 100000 in
theorem fl_X5_9 : fL RX5 9 5 0 (.array .int) true := ⟨RX5, TX5, 10, tyX5, cl5, Nat.le_of_ble_eq_true rfl, rfl, rfl, Or.inl (tG_of (tb1 (List.mem_of_getElem? (i := 223) rfl)) (by decide +kernel))⟩
set_option maxRecDepth 100000 in
theorem fl_X5_15 : fL RX5 15 5 1 (.array .int) true := ⟨RX5, TX5, 10, tyX5, cl5, Nat.le_of_ble_eq_true rfl, rfl, rfl, Or.inl (tG_of (tb1 (List.mem_of_getElem? (i := 224) rfl)) (by decide +kernel))⟩
set_option maxRecDepth 100000 in
theorem fl_X5_18 : fL RX5 18 5 2 (.array .int) true := ⟨RX5, TX5, 10, tyX5, cl5, Nat.le_of_ble_eq_true rfl, rfl, rfl, Or.inl (tG_of (tb1 (List.mem_of_getElem? (i := 226) rfl)) (by decide +kernel))⟩
set_option maxRecDepth 100000 in
theorem fl_X5_21 : fL RX5 21 5 3 .int false := ⟨RX5, TX5, 10, tyX5, cl5, Nat.le_of_ble_eq_true rfl, rfl, rfl, Or.inl (tG_of (tb1 (List.mem_of_getElem? (i := 228) rfl)) (by decide +kernel))⟩
set_option maxRecDepth 100000 in
theorem fl_X5_27 : fL RX5 27 5 4 .int false := ⟨RX5, TX5, 10, tyX5, cl5, Nat.le_of_ble_eq_true rfl, rfl, rfl, Or.inl (tG_of (tb1 (List.mem_of_getElem? (i := 229) rfl)) (by decide +kernel))⟩
set_option maxRecDepth 100000 in
theorem fl_X5_30 : fL RX5 30 5 5 .int false := ⟨RX5, TX5, 10, tyX5, cl5, Nat.le_of_ble_eq_true rfl, rfl, rfl, Or.inl (tG_of (tb1 (List.mem_of_getElem? (i := 231) rfl)) (by decide +kernel))⟩
set_option maxRecDepth 100000 in
theorem fl_X5_33 : fL RX5 33 5 6 .int false := ⟨RX5, TX5, 10, tyX5, cl5, Nat.le_of_ble_eq_true rfl, rfl, rfl, Or.inl (tG_of (tb1 (List.mem_of_getElem? (i := 233) rfl)) (by decide +kernel))⟩
set_option maxRecDepth 100000 in
theorem fl_X5_36 : fL RX5 36 5 7 .int false := ⟨RX5, TX5, 10, tyX5, cl5, Nat.le_of_ble_eq_true rfl, rfl, rfl, Or.inl (tG_of (tb1 (List.mem_of_getElem? (i := 235) rfl)) (by decide +kernel))⟩
set_option maxRecDepth 100000 in
theorem fl_X5_39 : fL RX5 39 5 8 .int false := ⟨RX5, TX5, 10, tyX5, cl5, Nat.le_of_ble_eq_true rfl, rfl, rfl, Or.inl (tG_of (tb1 (List.mem_of_getElem? (i := 237) rfl)) (by decide +kernel))⟩
set_option maxRecDepth 100000 in
theorem fl_X5_42 : fL RX5 42 5 9 .int false := ⟨RX5, TX5, 10, tyX5, cl5, Nat.le_of_ble_eq_true rfl, rfl, rfl, Or.inl (tG_of (tb1 (List.mem_of_getElem? (i := 239) rfl)) (by decide +kernel))⟩
set_option maxRecDepth 100000 in
theorem fl_X5_57 : fL RX5 57 1 2 (.array .int) true := ⟨RX1, TX1, 7, tyX1, cl1, Nat.le_of_ble_eq_true rfl, rfl, rfl, Or.inr ⟨"UnderFloor", (tb1 (List.mem_of_getElem? (i := 190) rfl))⟩⟩
set_option maxRecDepth 100000 in
theorem fl_X5_69 : fL RX5 69 1 1 (.array .int) true := ⟨RX1, TX1, 7, tyX1, cl1, Nat.le_of_ble_eq_true rfl, rfl, rfl, Or.inr ⟨"UnderFloor", (tb1 (List.mem_of_getElem? (i := 188) rfl))⟩⟩
set_option maxRecDepth 100000 in
theorem fl_X6_9 : fL RX6 9 6 0 (.array .int) true := ⟨RX6, TX6, 9, tyX6, cl6, Nat.le_of_ble_eq_true rfl, rfl, rfl, Or.inl (tG_of (tb2 (List.mem_of_getElem? (i := 28) rfl)) (by decide +kernel))⟩
set_option maxRecDepth 100000 in
theorem fl_X6_15 : fL RX6 15 6 1 (.array .int) true := ⟨RX6, TX6, 9, tyX6, cl6, Nat.le_of_ble_eq_true rfl, rfl, rfl, Or.inl (tG_of (tb2 (List.mem_of_getElem? (i := 29) rfl)) (by decide +kernel))⟩
set_option maxRecDepth 100000 in
theorem fl_X6_18 : fL RX6 18 6 2 (.array .int) true := ⟨RX6, TX6, 9, tyX6, cl6, Nat.le_of_ble_eq_true rfl, rfl, rfl, Or.inl (tG_of (tb2 (List.mem_of_getElem? (i := 30) rfl)) (by decide +kernel))⟩
set_option maxRecDepth 100000 in
theorem fl_X6_21 : fL RX6 21 6 3 (.array .int) true := ⟨RX6, TX6, 9, tyX6, cl6, Nat.le_of_ble_eq_true rfl, rfl, rfl, Or.inl (tG_of (tb2 (List.mem_of_getElem? (i := 31) rfl)) (by decide +kernel))⟩
set_option maxRecDepth 100000 in
theorem fl_X6_24 : fL RX6 24 6 4 (.object "UnderFloor$Job") false := ⟨RX6, TX6, 9, tyX6, cl6, Nat.le_of_ble_eq_true rfl, rfl, rfl, Or.inl (tG_of (tb2 (List.mem_of_getElem? (i := 32) rfl)) (by decide +kernel))⟩
set_option maxRecDepth 100000 in
theorem fl_X6_28 : fL RX6 28 6 5 .int false := ⟨RX6, TX6, 9, tyX6, cl6, Nat.le_of_ble_eq_true rfl, rfl, rfl, Or.inl (tG_of (tb2 (List.mem_of_getElem? (i := 33) rfl)) (by decide +kernel))⟩
set_option maxRecDepth 100000 in
theorem fl_X6_32 : fL RX6 32 6 6 .int false := ⟨RX6, TX6, 9, tyX6, cl6, Nat.le_of_ble_eq_true rfl, rfl, rfl, Or.inl (tG_of (tb2 (List.mem_of_getElem? (i := 34) rfl)) (by decide +kernel))⟩
set_option maxRecDepth 100000 in
theorem fl_X6_36 : fL RX6 36 6 7 .int false := ⟨RX6, TX6, 9, tyX6, cl6, Nat.le_of_ble_eq_true rfl, rfl, rfl, Or.inl (tG_of (tb2 (List.mem_of_getElem? (i := 35) rfl)) (by decide +kernel))⟩
set_option maxRecDepth 100000 in
theorem fl_X6_39 : fL RX6 39 6 8 .int false := ⟨RX6, TX6, 9, tyX6, cl6, Nat.le_of_ble_eq_true rfl, rfl, rfl, Or.inl (tG_of (tb2 (List.mem_of_getElem? (i := 37) rfl)) (by decide +kernel))⟩
set_option maxRecDepth 100000 in
theorem fl_X6_59 : fL RX6 59 1 5 .int false := ⟨RX1, TX1, 7, tyX1, cl1, Nat.le_of_ble_eq_true rfl, rfl, rfl, Or.inr ⟨"UnderFloor", (tb1 (List.mem_of_getElem? (i := 197) rfl))⟩⟩
set_option maxRecDepth 100000 in
theorem fl_X6_73 : fL RX6 73 1 2 (.array .int) true := ⟨RX1, TX1, 7, tyX1, cl1, Nat.le_of_ble_eq_true rfl, rfl, rfl, Or.inr ⟨"UnderFloor", (tb1 (List.mem_of_getElem? (i := 191) rfl))⟩⟩
set_option maxRecDepth 100000 in
theorem fl_X7_9 : fL RX7 9 7 0 (.array .int) true := ⟨RX7, TX7, 2, tyX7, cl7, Nat.le_of_ble_eq_true rfl, rfl, rfl, Or.inl (tG_of (tb1 (List.mem_of_getElem? (i := 34) rfl)) (by decide +kernel))⟩
set_option maxRecDepth 100000 in
theorem fl_X7_15 : fL RX7 15 7 1 .int false := ⟨RX7, TX7, 2, tyX7, cl7, Nat.le_of_ble_eq_true rfl, rfl, rfl, Or.inl (tG_of (tb1 (List.mem_of_getElem? (i := 38) rfl)) (by decide +kernel))⟩
set_option maxRecDepth 100000 in
theorem fl_X8_9 : fL RX8 9 8 0 (.array .int) true := ⟨RX8, TX8, 7, tyX8, cl8, Nat.le_of_ble_eq_true rfl, rfl, rfl, Or.inl (tG_of (tb2 (List.mem_of_getElem? (i := 64) rfl)) (by decide +kernel))⟩
set_option maxRecDepth 100000 in
theorem fl_X8_15 : fL RX8 15 8 1 (.array .int) true := ⟨RX8, TX8, 7, tyX8, cl8, Nat.le_of_ble_eq_true rfl, rfl, rfl, Or.inl (tG_of (tb2 (List.mem_of_getElem? (i := 65) rfl)) (by decide +kernel))⟩
set_option maxRecDepth 100000 in
theorem fl_X8_18 : fL RX8 18 8 3 (.object "UnderFloor$Job") false := ⟨RX8, TX8, 7, tyX8, cl8, Nat.le_of_ble_eq_true rfl, rfl, rfl, Or.inl (tG_of (tb2 (List.mem_of_getElem? (i := 68) rfl)) (by decide +kernel))⟩
set_option maxRecDepth 100000 in
theorem fl_X8_22 : fL RX8 22 8 2 .int false := ⟨RX8, TX8, 7, tyX8, cl8, Nat.le_of_ble_eq_true rfl, rfl, rfl, Or.inl (tG_of (tb2 (List.mem_of_getElem? (i := 66) rfl)) (by decide +kernel))⟩
set_option maxRecDepth 100000 in
theorem fl_X8_26 : fL RX8 26 8 4 .int false := ⟨RX8, TX8, 7, tyX8, cl8, Nat.le_of_ble_eq_true rfl, rfl, rfl, Or.inl (tG_of (tb2 (List.mem_of_getElem? (i := 69) rfl)) (by decide +kernel))⟩
set_option maxRecDepth 100000 in
theorem fl_X8_29 : fL RX8 29 8 5 .int false := ⟨RX8, TX8, 7, tyX8, cl8, Nat.le_of_ble_eq_true rfl, rfl, rfl, Or.inl (tG_of (tb2 (List.mem_of_getElem? (i := 70) rfl)) (by decide +kernel))⟩
set_option maxRecDepth 100000 in
theorem fl_X8_32 : fL RX8 32 8 6 .int false := ⟨RX8, TX8, 7, tyX8, cl8, Nat.le_of_ble_eq_true rfl, rfl, rfl, Or.inl (tG_of (tb2 (List.mem_of_getElem? (i := 71) rfl)) (by decide +kernel))⟩
set_option maxRecDepth 100000 in
theorem fl_X8_45 : fL RX8 45 1 5 .int false := ⟨RX1, TX1, 7, tyX1, cl1, Nat.le_of_ble_eq_true rfl, rfl, rfl, Or.inr ⟨"UnderFloor", (tb1 (List.mem_of_getElem? (i := 198) rfl))⟩⟩
set_option maxRecDepth 100000 in
theorem fl_X8_61 : fL RX8 61 1 1 (.array .int) true := ⟨RX1, TX1, 7, tyX1, cl1, Nat.le_of_ble_eq_true rfl, rfl, rfl, Or.inr ⟨"UnderFloor", (tb1 (List.mem_of_getElem? (i := 187) rfl))⟩⟩
set_option maxRecDepth 100000 in
theorem fl_X9_9 : fL RX9 9 9 0 (.array .int) true := ⟨RX9, TX9, 3, tyX9, cl9, Nat.le_of_ble_eq_true rfl, rfl, rfl, Or.inl (tG_of (tb1 (List.mem_of_getElem? (i := 169) rfl)) (by decide +kernel))⟩
set_option maxRecDepth 100000 in
theorem fl_X9_15 : fL RX9 15 9 1 (.array .int) true := ⟨RX9, TX9, 3, tyX9, cl9, Nat.le_of_ble_eq_true rfl, rfl, rfl, Or.inl (tG_of (tb1 (List.mem_of_getElem? (i := 170) rfl)) (by decide +kernel))⟩
set_option maxRecDepth 100000 in
theorem fl_X9_18 : fL RX9 18 9 2 .int false := ⟨RX9, TX9, 3, tyX9, cl9, Nat.le_of_ble_eq_true rfl, rfl, rfl, Or.inl (tG_of (tb1 (List.mem_of_getElem? (i := 171) rfl)) (by decide +kernel))⟩
set_option maxRecDepth 100000 in
theorem fl_X11_9 : fL RX11 9 11 1 (.array .int) true := ⟨RX11, TX11, 54, tyX11, cl11, Nat.le_of_ble_eq_true rfl, rfl, rfl, Or.inl (tG_of (tb5 (List.mem_of_getElem? (i := 109) rfl)) (by decide +kernel))⟩
set_option maxRecDepth 100000 in
theorem fl_X11_13 : fL RX11 13 11 6 (.array .int) true := ⟨RX11, TX11, 54, tyX11, cl11, Nat.le_of_ble_eq_true rfl, rfl, rfl, Or.inl (tG_of (tb5 (List.mem_of_getElem? (i := 114) rfl)) (by decide +kernel))⟩
set_option maxRecDepth 100000 in
theorem fl_X11_16 : fL RX11 16 11 7 (.array .int) true := ⟨RX11, TX11, 54, tyX11, cl11, Nat.le_of_ble_eq_true rfl, rfl, rfl, Or.inl (tG_of (tb5 (List.mem_of_getElem? (i := 115) rfl)) (by decide +kernel))⟩
set_option maxRecDepth 100000 in
theorem fl_X11_19 : fL RX11 19 11 8 (.array .int) true := ⟨RX11, TX11, 54, tyX11, cl11, Nat.le_of_ble_eq_true rfl, rfl, rfl, Or.inl (tG_of (tb5 (List.mem_of_getElem? (i := 116) rfl)) (by decide +kernel))⟩
set_option maxRecDepth 100000 in
theorem fl_X11_22 : fL RX11 22 11 9 (.array .int) true := ⟨RX11, TX11, 54, tyX11, cl11, Nat.le_of_ble_eq_true rfl, rfl, rfl, Or.inl (tG_of (tb5 (List.mem_of_getElem? (i := 117) rfl)) (by decide +kernel))⟩
set_option maxRecDepth 100000 in
theorem fl_X11_25 : fL RX11 25 11 10 (.array .int) true := ⟨RX11, TX11, 54, tyX11, cl11, Nat.le_of_ble_eq_true rfl, rfl, rfl, Or.inl (tG_of (tb5 (List.mem_of_getElem? (i := 118) rfl)) (by decide +kernel))⟩
set_option maxRecDepth 100000 in
theorem fl_X11_28 : fL RX11 28 11 11 (.array .int) true := ⟨RX11, TX11, 54, tyX11, cl11, Nat.le_of_ble_eq_true rfl, rfl, rfl, Or.inl (tG_of (tb5 (List.mem_of_getElem? (i := 119) rfl)) (by decide +kernel))⟩
set_option maxRecDepth 100000 in
theorem fl_X11_31 : fL RX11 31 11 12 (.array .int) true := ⟨RX11, TX11, 54, tyX11, cl11, Nat.le_of_ble_eq_true rfl, rfl, rfl, Or.inl (tG_of (tb5 (List.mem_of_getElem? (i := 120) rfl)) (by decide +kernel))⟩
set_option maxRecDepth 100000 in
theorem fl_X11_34 : fL RX11 34 11 15 (.array .int) true := ⟨RX11, TX11, 54, tyX11, cl11, Nat.le_of_ble_eq_true rfl, rfl, rfl, Or.inl (tG_of (tb5 (List.mem_of_getElem? (i := 123) rfl)) (by decide +kernel))⟩
set_option maxRecDepth 100000 in
theorem fl_X11_37 : fL RX11 37 11 16 (.array .int) true := ⟨RX11, TX11, 54, tyX11, cl11, Nat.le_of_ble_eq_true rfl, rfl, rfl, Or.inl (tG_of (tb5 (List.mem_of_getElem? (i := 124) rfl)) (by decide +kernel))⟩
set_option maxRecDepth 100000 in
theorem fl_X11_40 : fL RX11 40 11 17 (.array .int) true := ⟨RX11, TX11, 54, tyX11, cl11, Nat.le_of_ble_eq_true rfl, rfl, rfl, Or.inl (tG_of (tb5 (List.mem_of_getElem? (i := 125) rfl)) (by decide +kernel))⟩
set_option maxRecDepth 100000 in
theorem fl_X11_43 : fL RX11 43 11 22 (.array .int) true := ⟨RX11, TX11, 54, tyX11, cl11, Nat.le_of_ble_eq_true rfl, rfl, rfl, Or.inl (tG_of (tb5 (List.mem_of_getElem? (i := 130) rfl)) (by decide +kernel))⟩
set_option maxRecDepth 100000 in
theorem fl_X11_46 : fL RX11 46 11 25 (.array .int) true := ⟨RX11, TX11, 54, tyX11, cl11, Nat.le_of_ble_eq_true rfl, rfl, rfl, Or.inl (tG_of (tb5 (List.mem_of_getElem? (i := 133) rfl)) (by decide +kernel))⟩
set_option maxRecDepth 100000 in
theorem fl_X11_49 : fL RX11 49 11 26 (.array .int) true := ⟨RX11, TX11, 54, tyX11, cl11, Nat.le_of_ble_eq_true rfl, rfl, rfl, Or.inl (tG_of (tb5 (List.mem_of_getElem? (i := 134) rfl)) (by decide +kernel))⟩
set_option maxRecDepth 100000 in
theorem fl_X11_52 : fL RX11 52 11 27 (.array .int) true := ⟨RX11, TX11, 54, tyX11, cl11, Nat.le_of_ble_eq_true rfl, rfl, rfl, Or.inl (tG_of (tb5 (List.mem_of_getElem? (i := 135) rfl)) (by decide +kernel))⟩
set_option maxRecDepth 100000 in
theorem fl_X11_55 : fL RX11 55 11 29 (.array .int) true := ⟨RX11, TX11, 54, tyX11, cl11, Nat.le_of_ble_eq_true rfl, rfl, rfl, Or.inl (tG_of (tb5 (List.mem_of_getElem? (i := 137) rfl)) (by decide +kernel))⟩
set_option maxRecDepth 100000 in
theorem fl_X11_58 : fL RX11 58 11 30 .int false := ⟨RX11, TX11, 54, tyX11, cl11, Nat.le_of_ble_eq_true rfl, rfl, rfl, Or.inl (tG_of (tb5 (List.mem_of_getElem? (i := 138) rfl)) (by decide +kernel))⟩
set_option maxRecDepth 100000 in
theorem fl_X11_62 : fL RX11 62 11 32 .int false := ⟨RX11, TX11, 54, tyX11, cl11, Nat.le_of_ble_eq_true rfl, rfl, rfl, Or.inl (tG_of (tb5 (List.mem_of_getElem? (i := 140) rfl)) (by decide +kernel))⟩
set_option maxRecDepth 100000 in
theorem fl_X11_65 : fL RX11 65 11 33 (.array .int) true := ⟨RX11, TX11, 54, tyX11, cl11, Nat.le_of_ble_eq_true rfl, rfl, rfl, Or.inl (tG_of (tb5 (List.mem_of_getElem? (i := 141) rfl)) (by decide +kernel))⟩
set_option maxRecDepth 100000 in
theorem fl_X11_68 : fL RX11 68 11 34 (.array .int) true := ⟨RX11, TX11, 54, tyX11, cl11, Nat.le_of_ble_eq_true rfl, rfl, rfl, Or.inl (tG_of (tb5 (List.mem_of_getElem? (i := 142) rfl)) (by decide +kernel))⟩
set_option maxRecDepth 100000 in
theorem fl_X11_71 : fL RX11 71 11 35 (.array .int) true := ⟨RX11, TX11, 54, tyX11, cl11, Nat.le_of_ble_eq_true rfl, rfl, rfl, Or.inl (tG_of (tb5 (List.mem_of_getElem? (i := 143) rfl)) (by decide +kernel))⟩
set_option maxRecDepth 100000 in
theorem fl_X11_74 : fL RX11 74 11 36 (.array .int) true := ⟨RX11, TX11, 54, tyX11, cl11, Nat.le_of_ble_eq_true rfl, rfl, rfl, Or.inl (tG_of (tb5 (List.mem_of_getElem? (i := 144) rfl)) (by decide +kernel))⟩
set_option maxRecDepth 100000 in
theorem fl_X11_77 : fL RX11 77 11 39 (.array .int) true := ⟨RX11, TX11, 54, tyX11, cl11, Nat.le_of_ble_eq_true rfl, rfl, rfl, Or.inl (tG_of (tb5 (List.mem_of_getElem? (i := 147) rfl)) (by decide +kernel))⟩
set_option maxRecDepth 100000 in
theorem fl_X11_80 : fL RX11 80 11 40 (.array .int) true := ⟨RX11, TX11, 54, tyX11, cl11, Nat.le_of_ble_eq_true rfl, rfl, rfl, Or.inl (tG_of (tb5 (List.mem_of_getElem? (i := 148) rfl)) (by decide +kernel))⟩
set_option maxRecDepth 100000 in
theorem fl_X11_83 : fL RX11 83 11 43 (.array .int) true := ⟨RX11, TX11, 54, tyX11, cl11, Nat.le_of_ble_eq_true rfl, rfl, rfl, Or.inl (tG_of (tb5 (List.mem_of_getElem? (i := 151) rfl)) (by decide +kernel))⟩
set_option maxRecDepth 100000 in
theorem fl_X11_86 : fL RX11 86 11 44 (.array .int) true := ⟨RX11, TX11, 54, tyX11, cl11, Nat.le_of_ble_eq_true rfl, rfl, rfl, Or.inl (tG_of (tb5 (List.mem_of_getElem? (i := 152) rfl)) (by decide +kernel))⟩
set_option maxRecDepth 100000 in
theorem fl_X11_89 : fL RX11 89 11 48 (.array .int) true := ⟨RX11, TX11, 54, tyX11, cl11, Nat.le_of_ble_eq_true rfl, rfl, rfl, Or.inl (tG_of (tb5 (List.mem_of_getElem? (i := 156) rfl)) (by decide +kernel))⟩
set_option maxRecDepth 100000 in
theorem fl_X11_92 : fL RX11 92 11 49 (.array .int) true := ⟨RX11, TX11, 54, tyX11, cl11, Nat.le_of_ble_eq_true rfl, rfl, rfl, Or.inl (tG_of (tb5 (List.mem_of_getElem? (i := 157) rfl)) (by decide +kernel))⟩
set_option maxRecDepth 100000 in
theorem fl_X11_95 : fL RX11 95 11 50 (.array .int) true := ⟨RX11, TX11, 54, tyX11, cl11, Nat.le_of_ble_eq_true rfl, rfl, rfl, Or.inl (tG_of (tb5 (List.mem_of_getElem? (i := 158) rfl)) (by decide +kernel))⟩
set_option maxRecDepth 100000 in
theorem fl_X11_98 : fL RX11 98 11 0 .int false := ⟨RX11, TX11, 54, tyX11, cl11, Nat.le_of_ble_eq_true rfl, rfl, rfl, Or.inl (tG_of (tb5 (List.mem_of_getElem? (i := 108) rfl)) (by decide +kernel))⟩
set_option maxRecDepth 100000 in
theorem fl_X11_105 : fL RX11 105 11 2 .int false := ⟨RX11, TX11, 54, tyX11, cl11, Nat.le_of_ble_eq_true rfl, rfl, rfl, Or.inl (tG_of (tb5 (List.mem_of_getElem? (i := 110) rfl)) (by decide +kernel))⟩
set_option maxRecDepth 100000 in
theorem fl_X11_108 : fL RX11 108 11 3 .int false := ⟨RX11, TX11, 54, tyX11, cl11, Nat.le_of_ble_eq_true rfl, rfl, rfl, Or.inl (tG_of (tb5 (List.mem_of_getElem? (i := 111) rfl)) (by decide +kernel))⟩
set_option maxRecDepth 100000 in
theorem fl_X11_115 : fL RX11 115 11 4 .int false := ⟨RX11, TX11, 54, tyX11, cl11, Nat.le_of_ble_eq_true rfl, rfl, rfl, Or.inl (tG_of (tb5 (List.mem_of_getElem? (i := 112) rfl)) (by decide +kernel))⟩
set_option maxRecDepth 100000 in
theorem fl_X11_118 : fL RX11 118 11 14 .int false := ⟨RX11, TX11, 54, tyX11, cl11, Nat.le_of_ble_eq_true rfl, rfl, rfl, Or.inl (tG_of (tb5 (List.mem_of_getElem? (i := 122) rfl)) (by decide +kernel))⟩
set_option maxRecDepth 100000 in
theorem fl_X11_121 : fL RX11 121 11 5 .int false := ⟨RX11, TX11, 54, tyX11, cl11, Nat.le_of_ble_eq_true rfl, rfl, rfl, Or.inl (tG_of (tb5 (List.mem_of_getElem? (i := 113) rfl)) (by decide +kernel))⟩
set_option maxRecDepth 100000 in
theorem fl_X11_220 : fL RX11 220 11 21 .boolean false := ⟨RX11, TX11, 54, tyX11, cl11, Nat.le_of_ble_eq_true rfl, rfl, rfl, Or.inl (tG_of (tb5 (List.mem_of_getElem? (i := 129) rfl)) (by decide +kernel))⟩
set_option maxRecDepth 100000 in
theorem fl_X11_224 : fL RX11 224 11 20 .int false := ⟨RX11, TX11, 54, tyX11, cl11, Nat.le_of_ble_eq_true rfl, rfl, rfl, Or.inl (tG_of (tb5 (List.mem_of_getElem? (i := 128) rfl)) (by decide +kernel))⟩
set_option maxRecDepth 100000 in
theorem fl_X11_231 : fL RX11 231 11 18 .int false := ⟨RX11, TX11, 54, tyX11, cl11, Nat.le_of_ble_eq_true rfl, rfl, rfl, Or.inl (tG_of (tb5 (List.mem_of_getElem? (i := 126) rfl)) (by decide +kernel))⟩
set_option maxRecDepth 100000 in
theorem fl_X11_234 : fL RX11 234 11 19 .int false := ⟨RX11, TX11, 54, tyX11, cl11, Nat.le_of_ble_eq_true rfl, rfl, rfl, Or.inl (tG_of (tb5 (List.mem_of_getElem? (i := 127) rfl)) (by decide +kernel))⟩
set_option maxRecDepth 100000 in
theorem fl_X11_252 : fL RX11 252 11 23 .int false := ⟨RX11, TX11, 54, tyX11, cl11, Nat.le_of_ble_eq_true rfl, rfl, rfl, Or.inl (tG_of (tb5 (List.mem_of_getElem? (i := 131) rfl)) (by decide +kernel))⟩
set_option maxRecDepth 100000 in
theorem fl_X11_255 : fL RX11 255 11 24 .int false := ⟨RX11, TX11, 54, tyX11, cl11, Nat.le_of_ble_eq_true rfl, rfl, rfl, Or.inl (tG_of (tb5 (List.mem_of_getElem? (i := 132) rfl)) (by decide +kernel))⟩
set_option maxRecDepth 100000 in
theorem fl_X11_261 : fL RX11 261 11 45 .int false := ⟨RX11, TX11, 54, tyX11, cl11, Nat.le_of_ble_eq_true rfl, rfl, rfl, Or.inl (tG_of (tb5 (List.mem_of_getElem? (i := 153) rfl)) (by decide +kernel))⟩
set_option maxRecDepth 100000 in
theorem fl_X11_264 : fL RX11 264 11 53 .boolean false := ⟨RX11, TX11, 54, tyX11, cl11, Nat.le_of_ble_eq_true rfl, rfl, rfl, Or.inl (tG_of (tb5 (List.mem_of_getElem? (i := 161) rfl)) (by decide +kernel))⟩
set_option maxRecDepth 100000 in
theorem fl_X11_275 : fL RX11 275 11 28 .int false := ⟨RX11, TX11, 54, tyX11, cl11, Nat.le_of_ble_eq_true rfl, rfl, rfl, Or.inl (tG_of (tb5 (List.mem_of_getElem? (i := 136) rfl)) (by decide +kernel))⟩
set_option maxRecDepth 100000 in
theorem fl_X11_278 : fL RX11 278 11 13 .int false := ⟨RX11, TX11, 54, tyX11, cl11, Nat.le_of_ble_eq_true rfl, rfl, rfl, Or.inl (tG_of (tb5 (List.mem_of_getElem? (i := 121) rfl)) (by decide +kernel))⟩
set_option maxRecDepth 100000 in
theorem fl_X11_307 : fL RX11 307 11 31 .int false := ⟨RX11, TX11, 54, tyX11, cl11, Nat.le_of_ble_eq_true rfl, rfl, rfl, Or.inl (tG_of (tb5 (List.mem_of_getElem? (i := 139) rfl)) (by decide +kernel))⟩
set_option maxRecDepth 100000 in
theorem fl_X11_316 : fL RX11 316 11 37 .int false := ⟨RX11, TX11, 54, tyX11, cl11, Nat.le_of_ble_eq_true rfl, rfl, rfl, Or.inl (tG_of (tb5 (List.mem_of_getElem? (i := 145) rfl)) (by decide +kernel))⟩
set_option maxRecDepth 100000 in
theorem fl_X11_319 : fL RX11 319 11 38 .int false := ⟨RX11, TX11, 54, tyX11, cl11, Nat.le_of_ble_eq_true rfl, rfl, rfl, Or.inl (tG_of (tb5 (List.mem_of_getElem? (i := 146) rfl)) (by decide +kernel))⟩
set_option maxRecDepth 100000 in
theorem fl_X11_347 : fL RX11 347 11 41 .int false := ⟨RX11, TX11, 54, tyX11, cl11, Nat.le_of_ble_eq_true rfl, rfl, rfl, Or.inl (tG_of (tb5 (List.mem_of_getElem? (i := 149) rfl)) (by decide +kernel))⟩
set_option maxRecDepth 100000 in
theorem fl_X11_350 : fL RX11 350 11 42 .int false := ⟨RX11, TX11, 54, tyX11, cl11, Nat.le_of_ble_eq_true rfl, rfl, rfl, Or.inl (tG_of (tb5 (List.mem_of_getElem? (i := 150) rfl)) (by decide +kernel))⟩
set_option maxRecDepth 100000 in
theorem fl_X11_378 : fL RX11 378 11 46 .int false := ⟨RX11, TX11, 54, tyX11, cl11, Nat.le_of_ble_eq_true rfl, rfl, rfl, Or.inl (tG_of (tb5 (List.mem_of_getElem? (i := 154) rfl)) (by decide +kernel))⟩
set_option maxRecDepth 100000 in
theorem fl_X11_381 : fL RX11 381 11 47 .int false := ⟨RX11, TX11, 54, tyX11, cl11, Nat.le_of_ble_eq_true rfl, rfl, rfl, Or.inl (tG_of (tb5 (List.mem_of_getElem? (i := 155) rfl)) (by decide +kernel))⟩
set_option maxRecDepth 100000 in
theorem fl_X11_389 : fL RX11 389 11 51 .int false := ⟨RX11, TX11, 54, tyX11, cl11, Nat.le_of_ble_eq_true rfl, rfl, rfl, Or.inl (tG_of (tb5 (List.mem_of_getElem? (i := 159) rfl)) (by decide +kernel))⟩
set_option maxRecDepth 100000 in
theorem fl_X11_392 : fL RX11 392 11 52 .int false := ⟨RX11, TX11, 54, tyX11, cl11, Nat.le_of_ble_eq_true rfl, rfl, rfl, Or.inl (tG_of (tb5 (List.mem_of_getElem? (i := 160) rfl)) (by decide +kernel))⟩
theorem kdo_0_0 {a : Nat} (h : kD a = (10, 9)) : kD (a + 1) = (0, 60) := (by decide +kernel : ∀ a, a < nC → kD a = (10, 9) → kD (a + 1) = (0, 60)) a (kD_e h (by decide)) h
theorem kdo_0_1 {a : Nat} (h : kD a = (10, 9)) : kD (a + 2) = (0, 8) := (by decide +kernel : ∀ a, a < nC → kD a = (10, 9) → kD (a + 2) = (0, 8)) a (kD_e h (by decide)) h
theorem kdo_0_2 {a : Nat} (h : kD a = (10, 9)) : kD (a + 3) = (0, 8) := (by decide +kernel : ∀ a, a < nC → kD a = (10, 9) → kD (a + 3) = (0, 8)) a (kD_e h (by decide)) h
theorem kdo_1_1 {a : Nat} (h : kD a = (11, 7)) : kD (a + 1) = (0, 8) := (by decide +kernel : ∀ a, a < nC → kD a = (11, 7) → kD (a + 1) = (0, 8)) a (kD_e h (by decide)) h
theorem kdo_1_2 {a : Nat} (h : kD a = (11, 7)) : kD (a + 2) = (0, 8) := (by decide +kernel : ∀ a, a < nC → kD a = (11, 7) → kD (a + 2) = (0, 8)) a (kD_e h (by decide)) h
theorem kdo_1_3 {a : Nat} (h : kD a = (11, 7)) : kD (a + 3) = (0, 8) := (by decide +kernel : ∀ a, a < nC → kD a = (11, 7) → kD (a + 3) = (0, 8)) a (kD_e h (by decide)) h
theorem kdo_1_4 {a : Nat} (h : kD a = (11, 7)) : kD (a + 4) = (0, 72) := (by decide +kernel : ∀ a, a < nC → kD a = (11, 7) → kD (a + 4) = (0, 72)) a (kD_e h (by decide)) h
theorem kdo_3_0 {a : Nat} (h : kD a = (13, 3)) : kD (a + 1) = (0, 8) := (by decide +kernel : ∀ a, a < nC → kD a = (13, 3) → kD (a + 1) = (0, 8)) a (kD_e h (by decide)) h
theorem kdo_3_1 {a : Nat} (h : kD a = (13, 3)) : kD (a + 2) = (0, 8) := (by decide +kernel : ∀ a, a < nC → kD a = (13, 3) → kD (a + 2) = (0, 8)) a (kD_e h (by decide)) h
theorem kdo_7_0 {a : Nat} (h : kD a = (17, 2)) : kD (a + 1) = (0, 160) := (by decide +kernel : ∀ a, a < nC → kD a = (17, 2) → kD (a + 1) = (0, 160)) a (kD_e h (by decide)) h
theorem kA17 {i : Int} (h : 0 ≤ i ∧ i < aN 17) : kD (aE 17 i.toNat) = (13, 3) := (by decide +kernel : ∀ j, j < aN 17 → kD (aE 17 j) = (13, 3)) _ (by omega)
theorem kA36 {i : Int} (h : 0 ≤ i ∧ i < aN 36) : kD (aE 36 i.toNat) = (17, 2) := (by decide +kernel : ∀ j, j < aN 36 → kD (aE 36 j) = (17, 2)) _ (by omega)
set_option maxRecDepth 100000 in
theorem kc_X10_226 : Cond.constant RX10 226 (Int32.ofInt (-1000000)) ∈ tG := (tG_of (tb3 (List.mem_of_getElem? (i := 196) rfl)) (by decide +kernel))
set_option maxRecDepth 100000 in
theorem kc_X2_127 : Cond.constantLong RX2 127 (Int64.ofInt (-1000000)) ∈ tG := (tG_of (tb3 (List.mem_of_getElem? (i := 38) rfl)) (by decide +kernel))
set_option maxRecDepth 100000 in
theorem kc_X2_129 : Cond.constantLong RX2 129 (Int64.ofInt (1000000)) ∈ tG := (tG_of (tb3 (List.mem_of_getElem? (i := 39) rfl)) (by decide +kernel))
set_option maxRecDepth 100000 in
theorem kc_X6_35 : Cond.constant RX6 35 (Int32.ofInt (1000000000)) ∈ tG := (tG_of (tb4 (List.mem_of_getElem? (i := 70) rfl)) (by decide +kernel))
set_option maxRecDepth 100000 in
theorem kc_X11_188 : Cond.constantLong RX11 188 (Int64.ofInt (-1000000)) ∈ tG := (tG_of (tb6 (List.mem_of_getElem? (i := 227) rfl)) (by decide +kernel))
set_option maxRecDepth 100000 in
theorem kc_X11_190 : Cond.constantLong RX11 190 (Int64.ofInt (1000000)) ∈ tG := (tG_of (tb6 (List.mem_of_getElem? (i := 228) rfl)) (by decide +kernel))
set_option maxRecDepth 100000 in
theorem kc_X11_388 : Cond.constant RX11 388 (Int32.ofInt (-1000000)) ∈ tG := (tG_of (tb7 (List.mem_of_getElem? (i := 172) rfl)) (by decide +kernel))
set_option maxRecDepth 100000 in
theorem kc_J6_265 : Cond.constant RJ6 265 (Int32.ofInt (1431655765)) ∈ tG := (tG_of (tb4 (List.mem_of_getElem? (i := 130) rfl)) (by decide +kernel))
set_option maxRecDepth 100000 in
theorem kc_J6_266 : Cond.constant RJ6 266 (Int32.ofInt (858993459)) ∈ tG := (tG_of (tb4 (List.mem_of_getElem? (i := 131) rfl)) (by decide +kernel))
set_option maxRecDepth 100000 in
theorem kc_J6_267 : Cond.constant RJ6 267 (Int32.ofInt (252645135)) ∈ tG := (tG_of (tb4 (List.mem_of_getElem? (i := 132) rfl)) (by decide +kernel))
set_option maxRecDepth 100000 in
theorem mc_X0_81 : mC RX0 81 := ⟨(tG_of (tb3 (List.mem_of_getElem? (i := 177) rfl)) (by decide +kernel)), (tG_of (tb3 (List.mem_of_getElem? (i := 97) rfl)) (by decide +kernel)), (tG_of (tb3 (List.mem_of_getElem? (i := 96) rfl)) (by decide +kernel)), (tG_of (tb1 (List.mem_of_getElem? (i := 14) rfl)) (by decide +kernel))⟩
set_option maxRecDepth 100000 in
theorem mc_X1_66 : mC RX1 66 := ⟨(tG_of (tb5 (List.mem_of_getElem? (i := 6) rfl)) (by decide +kernel)), (tG_of (tb3 (List.mem_of_getElem? (i := 97) rfl)) (by decide +kernel)), (tG_of (tb3 (List.mem_of_getElem? (i := 96) rfl)) (by decide +kernel)), (tG_of (tb1 (List.mem_of_getElem? (i := 14) rfl)) (by decide +kernel))⟩
set_option maxRecDepth 100000 in
theorem mc_X7_19 : mC RX7 19 := ⟨(tG_of (tb3 (List.mem_of_getElem? (i := 95) rfl)) (by decide +kernel)), (tG_of (tb3 (List.mem_of_getElem? (i := 97) rfl)) (by decide +kernel)), (tG_of (tb3 (List.mem_of_getElem? (i := 96) rfl)) (by decide +kernel)), (tG_of (tb1 (List.mem_of_getElem? (i := 14) rfl)) (by decide +kernel))⟩
set_option maxRecDepth 100000 in
theorem mx_X1_79 : mW Lib.Math.max.name Lib.Math.max.code 2 .int RX1 79 := ⟨(tG_of (tb4 (List.mem_of_getElem? (i := 32) rfl)) (by decide +kernel)), (tG_of (tb3 (List.mem_of_getElem? (i := 218) rfl)) (by decide +kernel)), (tG_of (tb1 (List.mem_of_getElem? (i := 13) rfl)) (by decide +kernel)), (tG_of (tb3 (List.mem_of_getElem? (i := 219) rfl)) (by decide +kernel))⟩
set_option maxRecDepth 100000 in
theorem mx_X2_56 : mW Lib.Math.min.name Lib.Math.min.code 2 .int RX2 56 := ⟨(tG_of (tb3 (List.mem_of_getElem? (i := 214) rfl)) (by decide +kernel)), (tG_of (tb3 (List.mem_of_getElem? (i := 215) rfl)) (by decide +kernel)), (tG_of (tb1 (List.mem_of_getElem? (i := 13) rfl)) (by decide +kernel)), (tG_of (tb3 (List.mem_of_getElem? (i := 216) rfl)) (by decide +kernel))⟩
set_option maxRecDepth 100000 in
theorem mx_X2_62 : mW Lib.Math.max.name Lib.Math.max.code 2 .int RX2 62 := ⟨(tG_of (tb3 (List.mem_of_getElem? (i := 217) rfl)) (by decide +kernel)), (tG_of (tb3 (List.mem_of_getElem? (i := 218) rfl)) (by decide +kernel)), (tG_of (tb1 (List.mem_of_getElem? (i := 13) rfl)) (by decide +kernel)), (tG_of (tb3 (List.mem_of_getElem? (i := 219) rfl)) (by decide +kernel))⟩
set_option maxRecDepth 100000 in
theorem mx_X2_131 : mW Lib.MathLoose.min_long.x Lib.MathLoose.min_long.code 4 .long RX2 131 := ⟨(tG_of (tb3 (List.mem_of_getElem? (i := 40) rfl)) (by decide +kernel)), (tG_of (tb3 (List.mem_of_getElem? (i := 41) rfl)) (by decide +kernel)), (tG_of (tb1 (List.mem_of_getElem? (i := 13) rfl)) (by decide +kernel)), (tG_of (tb3 (List.mem_of_getElem? (i := 42) rfl)) (by decide +kernel))⟩
set_option maxRecDepth 100000 in
theorem mx_X2_134 : mW Lib.MathLoose.max_long.x Lib.MathLoose.max_long.code 4 .long RX2 134 := ⟨(tG_of (tb3 (List.mem_of_getElem? (i := 43) rfl)) (by decide +kernel)), (tG_of (tb3 (List.mem_of_getElem? (i := 44) rfl)) (by decide +kernel)), (tG_of (tb1 (List.mem_of_getElem? (i := 13) rfl)) (by decide +kernel)), (tG_of (tb3 (List.mem_of_getElem? (i := 45) rfl)) (by decide +kernel))⟩
set_option maxRecDepth 100000 in
theorem mx_X5_64 : mW Lib.Math.max.name Lib.Math.max.code 2 .int RX5 64 := ⟨(tG_of (tb4 (List.mem_of_getElem? (i := 38) rfl)) (by decide +kernel)), (tG_of (tb3 (List.mem_of_getElem? (i := 218) rfl)) (by decide +kernel)), (tG_of (tb1 (List.mem_of_getElem? (i := 13) rfl)) (by decide +kernel)), (tG_of (tb3 (List.mem_of_getElem? (i := 219) rfl)) (by decide +kernel))⟩
set_option maxRecDepth 100000 in
theorem mx_X6_83 : mW Lib.Math.max.name Lib.Math.max.code 2 .int RX6 83 := ⟨(tG_of (tb4 (List.mem_of_getElem? (i := 97) rfl)) (by decide +kernel)), (tG_of (tb3 (List.mem_of_getElem? (i := 218) rfl)) (by decide +kernel)), (tG_of (tb1 (List.mem_of_getElem? (i := 13) rfl)) (by decide +kernel)), (tG_of (tb3 (List.mem_of_getElem? (i := 219) rfl)) (by decide +kernel))⟩
set_option maxRecDepth 100000 in
theorem mx_X6_96 : mW Lib.Math.min.name Lib.Math.min.code 2 .int RX6 96 := ⟨(tG_of (tb5 (List.mem_of_getElem? (i := 23) rfl)) (by decide +kernel)), (tG_of (tb3 (List.mem_of_getElem? (i := 215) rfl)) (by decide +kernel)), (tG_of (tb1 (List.mem_of_getElem? (i := 13) rfl)) (by decide +kernel)), (tG_of (tb3 (List.mem_of_getElem? (i := 216) rfl)) (by decide +kernel))⟩
set_option maxRecDepth 100000 in
theorem mx_X11_192 : mW Lib.MathLoose.min_long.x Lib.MathLoose.min_long.code 4 .long RX11 192 := ⟨(tG_of (tb6 (List.mem_of_getElem? (i := 229) rfl)) (by decide +kernel)), (tG_of (tb3 (List.mem_of_getElem? (i := 41) rfl)) (by decide +kernel)), (tG_of (tb1 (List.mem_of_getElem? (i := 13) rfl)) (by decide +kernel)), (tG_of (tb3 (List.mem_of_getElem? (i := 42) rfl)) (by decide +kernel))⟩
set_option maxRecDepth 100000 in
theorem mx_X11_198 : mW Lib.MathLoose.max_long.x Lib.MathLoose.max_long.code 4 .long RX11 198 := ⟨(tG_of (tb6 (List.mem_of_getElem? (i := 230) rfl)) (by decide +kernel)), (tG_of (tb3 (List.mem_of_getElem? (i := 44) rfl)) (by decide +kernel)), (tG_of (tb1 (List.mem_of_getElem? (i := 13) rfl)) (by decide +kernel)), (tG_of (tb3 (List.mem_of_getElem? (i := 45) rfl)) (by decide +kernel))⟩
set_option maxRecDepth 100000 in
theorem mx_X11_299 : mW Lib.Math.min.name Lib.Math.min.code 2 .int RX11 299 := ⟨(tG_of (tb6 (List.mem_of_getElem? (i := 231) rfl)) (by decide +kernel)), (tG_of (tb3 (List.mem_of_getElem? (i := 215) rfl)) (by decide +kernel)), (tG_of (tb1 (List.mem_of_getElem? (i := 13) rfl)) (by decide +kernel)), (tG_of (tb3 (List.mem_of_getElem? (i := 216) rfl)) (by decide +kernel))⟩
set_option maxRecDepth 100000 in
theorem mx_X11_302 : mW Lib.Math.max.name Lib.Math.max.code 2 .int RX11 302 := ⟨(tG_of (tb6 (List.mem_of_getElem? (i := 232) rfl)) (by decide +kernel)), (tG_of (tb3 (List.mem_of_getElem? (i := 218) rfl)) (by decide +kernel)), (tG_of (tb1 (List.mem_of_getElem? (i := 13) rfl)) (by decide +kernel)), (tG_of (tb3 (List.mem_of_getElem? (i := 219) rfl)) (by decide +kernel))⟩
