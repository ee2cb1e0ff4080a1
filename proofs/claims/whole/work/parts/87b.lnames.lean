theorem wl_lay7 : ∀ k, k < 9 → u_lay RX7 TX7 k ∈ lw_tbl
  | 0, _ => List.mem_of_getElem? (i := 294) (by decide +kernel)
  | 1, _ => List.mem_of_getElem? (i := 296) (by decide +kernel)
  | 2, _ => List.mem_of_getElem? (i := 298) (by decide +kernel)
  | 3, _ => List.mem_of_getElem? (i := 300) (by decide +kernel)
  | 4, _ => List.mem_of_getElem? (i := 302) (by decide +kernel)
  | 5, _ => List.mem_of_getElem? (i := 304) (by decide +kernel)
  | 6, _ => List.mem_of_getElem? (i := 306) (by decide +kernel)
  | 7, _ => List.mem_of_getElem? (i := 308) (by decide +kernel)
  | 8, _ => List.mem_of_getElem? (i := 310) (by decide +kernel)
theorem inX7 : ∀ w ∈ wsX70, w ∈ lw_tbl := fun w h => by
  obtain ⟨k, hk, rfl⟩ := List.mem_map.mp h
  exact wl_lay7 k (List.mem_range.mp hk)
theorem wl_lay8 : ∀ k, k < 48 → u_lay RX8 TX8 k ∈ lw_tbl
  | 0, _ => List.mem_of_getElem? (i := 864) (by decide +kernel)
  | 1, _ => List.mem_of_getElem? (i := 866) (by decide +kernel)
  | 2, _ => List.mem_of_getElem? (i := 868) (by decide +kernel)
  | 3, _ => List.mem_of_getElem? (i := 870) (by decide +kernel)
  | 4, _ => List.mem_of_getElem? (i := 872) (by decide +kernel)
  | 5, _ => List.mem_of_getElem? (i := 874) (by decide +kernel)
  | 6, _ => List.mem_of_getElem? (i := 876) (by decide +kernel)
  | 7, _ => List.mem_of_getElem? (i := 878) (by decide +kernel)
  | 8, _ => List.mem_of_getElem? (i := 880) (by decide +kernel)
  | 9, _ => List.mem_of_getElem? (i := 882) (by decide +kernel)
  | 10, _ => List.mem_of_getElem? (i := 884) (by decide +kernel)
  | 11, _ => List.mem_of_getElem? (i := 886) (by decide +kernel)
  | 12, _ => List.mem_of_getElem? (i := 888) (by decide +kernel)
  | 13, _ => List.mem_of_getElem? (i := 890) (by decide +kernel)
  | 14, _ => List.mem_of_getElem? (i := 892) (by decide +kernel)
  | 15, _ => List.mem_of_getElem? (i := 894) (by decide +kernel)
  | 16, _ => List.mem_of_getElem? (i := 896) (by decide +kernel)
  | 17, _ => List.mem_of_getElem? (i := 898) (by decide +kernel)
  | 18, _ => List.mem_of_getElem? (i := 900) (by decide +kernel)
  | 19, _ => List.mem_of_getElem? (i := 902) (by decide +kernel)
  | 20, _ => List.mem_of_getElem? (i := 904) (by decide +kernel)
  | 21, _ => List.mem_of_getElem? (i := 906) (by decide +kernel)
  | 22, _ => List.mem_of_getElem? (i := 908) (by decide +kernel)
  | 23, _ => List.mem_of_getElem? (i := 910) (by decide +kernel)
  | 24, _ => List.mem_of_getElem? (i := 912) (by decide +kernel)
  | 25, _ => List.mem_of_getElem? (i := 914) (by decide +kernel)
  | 26, _ => List.mem_of_getElem? (i := 916) (by decide +kernel)
  | 27, _ => List.mem_of_getElem? (i := 918) (by decide +kernel)
  | 28, _ => List.mem_of_getElem? (i := 920) (by decide +kernel)
  | 29, _ => List.mem_of_getElem? (i := 922) (by decide +kernel)
  | 30, _ => List.mem_of_getElem? (i := 924) (by decide +kernel)
  | 31, _ => List.mem_of_getElem? (i := 926) (by decide +kernel)
  | 32, _ => List.mem_of_getElem? (i := 928) (by decide +kernel)
  | 33, _ => List.mem_of_getElem? (i := 930) (by decide +kernel)
  | 34, _ => List.mem_of_getElem? (i := 932) (by decide +kernel)
  | 35, _ => List.mem_of_getElem? (i := 934) (by decide +kernel)
  | 36, _ => List.mem_of_getElem? (i := 936) (by decide +kernel)
  | 37, _ => List.mem_of_getElem? (i := 938) (by decide +kernel)
  | 38, _ => List.mem_of_getElem? (i := 940) (by decide +kernel)
  | 39, _ => List.mem_of_getElem? (i := 942) (by decide +kernel)
  | 40, _ => List.mem_of_getElem? (i := 944) (by decide +kernel)
  | 41, _ => List.mem_of_getElem? (i := 946) (by decide +kernel)
  | 42, _ => List.mem_of_getElem? (i := 948) (by decide +kernel)
  | 43, _ => List.mem_of_getElem? (i := 950) (by decide +kernel)
  | 44, _ => List.mem_of_getElem? (i := 952) (by decide +kernel)
  | 45, _ => List.mem_of_getElem? (i := 954) (by decide +kernel)
  | 46, _ => List.mem_of_getElem? (i := 956) (by decide +kernel)
  | 47, _ => List.mem_of_getElem? (i := 958) (by decide +kernel)
  | k + 48, h => absurd h (by omega)
theorem inX8 : ∀ w ∈ wsX80, w ∈ lw_tbl := fun w h => by
  obtain ⟨k, hk, rfl⟩ := List.mem_map.mp h
  exact wl_lay8 k (List.mem_range.mp hk)
theorem wl_lay5 : ∀ k, k < 6 → u_lay RX5 TX5 k ∈ lw_tbl
  | 0, _ => List.mem_of_getElem? (i := 113) (by decide +kernel)
  | 1, _ => List.mem_of_getElem? (i := 115) (by decide +kernel)
  | 2, _ => List.mem_of_getElem? (i := 117) (by decide +kernel)
  | 3, _ => List.mem_of_getElem? (i := 119) (by decide +kernel)
  | 4, _ => List.mem_of_getElem? (i := 121) (by decide +kernel)
  | 5, _ => List.mem_of_getElem? (i := 123) (by decide +kernel)
theorem inX5 : ∀ w ∈ wsX50, w ∈ lw_tbl := fun w h => by
  obtain ⟨k, hk, rfl⟩ := List.mem_map.mp h
  exact wl_lay5 k (List.mem_range.mp hk)
theorem wl_lay6 : ∀ k, k < 9 → u_lay RX6 TX6 k ∈ lw_tbl
  | 0, _ => List.mem_of_getElem? (i := 158) (by decide +kernel)
  | 1, _ => List.mem_of_getElem? (i := 160) (by decide +kernel)
  | 2, _ => List.mem_of_getElem? (i := 162) (by decide +kernel)
  | 3, _ => List.mem_of_getElem? (i := 164) (by decide +kernel)
  | 4, _ => List.mem_of_getElem? (i := 166) (by decide +kernel)
  | 5, _ => List.mem_of_getElem? (i := 168) (by decide +kernel)
  | 6, _ => List.mem_of_getElem? (i := 170) (by decide +kernel)
  | 7, _ => List.mem_of_getElem? (i := 172) (by decide +kernel)
  | 8, _ => List.mem_of_getElem? (i := 174) (by decide +kernel)
theorem inX6 : ∀ w ∈ wsX60, w ∈ lw_tbl := fun w h => by
  obtain ⟨k, hk, rfl⟩ := List.mem_map.mp h
  exact wl_lay6 k (List.mem_range.mp hk)
theorem wl_lay1 : ∀ k, k < 2 → u_lay RX1 TX1 k ∈ lw_tbl
  | 0, _ => List.mem_of_getElem? (i := 187) (by decide +kernel)
  | 1, _ => List.mem_of_getElem? (i := 189) (by decide +kernel)
theorem inX1 : ∀ w ∈ wsX10, w ∈ lw_tbl := fun w h => by
  obtain ⟨k, hk, rfl⟩ := List.mem_map.mp h
  exact wl_lay1 k (List.mem_range.mp hk)
theorem wl_lay4 : ∀ k, k < 8 → u_lay RX4 TX4 k ∈ lw_tbl
  | 0, _ => List.mem_of_getElem? (i := 208) (by decide +kernel)
  | 1, _ => List.mem_of_getElem? (i := 210) (by decide +kernel)
  | 2, _ => List.mem_of_getElem? (i := 212) (by decide +kernel)
  | 3, _ => List.mem_of_getElem? (i := 214) (by decide +kernel)
  | 4, _ => List.mem_of_getElem? (i := 216) (by decide +kernel)
  | 5, _ => List.mem_of_getElem? (i := 218) (by decide +kernel)
  | 6, _ => List.mem_of_getElem? (i := 220) (by decide +kernel)
  | 7, _ => List.mem_of_getElem? (i := 222) (by decide +kernel)
theorem inX4 : ∀ w ∈ wsX40, w ∈ lw_tbl := fun w h => by
  obtain ⟨k, hk, rfl⟩ := List.mem_map.mp h
  exact wl_lay4 k (List.mem_range.mp hk)
theorem wl_lay0 : ∀ k, k < 4 → u_lay RX0 TX0 k ∈ lw_tbl
  | 0, _ => List.mem_of_getElem? (i := 236) (by decide +kernel)
  | 1, _ => List.mem_of_getElem? (i := 238) (by decide +kernel)
  | 2, _ => List.mem_of_getElem? (i := 240) (by decide +kernel)
  | 3, _ => List.mem_of_getElem? (i := 242) (by decide +kernel)
theorem inX0 : ∀ w ∈ wsX00, w ∈ lw_tbl := fun w h => by
  obtain ⟨k, hk, rfl⟩ := List.mem_map.mp h
  exact wl_lay0 k (List.mem_range.mp hk)
theorem wl_lay3 : ∀ k, k < 2 → u_lay RX3 TX3 k ∈ lw_tbl
  | 0, _ => List.mem_of_getElem? (i := 256) (by decide +kernel)
  | 1, _ => List.mem_of_getElem? (i := 258) (by decide +kernel)
theorem inX3 : ∀ w ∈ wsX30, w ∈ lw_tbl := fun w h => by
  obtain ⟨k, hk, rfl⟩ := List.mem_map.mp h
  exact wl_lay3 k (List.mem_range.mp hk)
theorem wl_lay2 : ∀ k, k < 4 → u_lay RX2 TX2 k ∈ lw_tbl
  | 0, _ => List.mem_of_getElem? (i := 276) (by decide +kernel)
  | 1, _ => List.mem_of_getElem? (i := 278) (by decide +kernel)
  | 2, _ => List.mem_of_getElem? (i := 280) (by decide +kernel)
  | 3, _ => List.mem_of_getElem? (i := 282) (by decide +kernel)
theorem inX2 : ∀ w ∈ wsX20, w ∈ lw_tbl := fun w h => by
  obtain ⟨k, hk, rfl⟩ := List.mem_map.mp h
  exact wl_lay2 k (List.mem_range.mp hk)
theorem wsL_law_in : ∀ w ∈ wsL_law, w ∈ lw_tbl := List.forall_mem_append.mpr ⟨List.forall_mem_append.mpr ⟨List.forall_mem_append.mpr ⟨List.forall_mem_append.mpr ⟨List.forall_mem_append.mpr ⟨List.forall_mem_append.mpr ⟨List.forall_mem_append.mpr ⟨List.forall_mem_append.mpr ⟨List.forall_mem_append.mpr ⟨List.forall_mem_append.mpr ⟨List.forall_mem_append.mpr ⟨wl_in1, List.forall_mem_append.mpr ⟨wl_in2, List.forall_mem_append.mpr ⟨wl_in3, List.forall_mem_append.mpr ⟨wl_in4, List.forall_mem_append.mpr ⟨wl_in5, List.forall_mem_append.mpr ⟨wl_in6, List.forall_mem_append.mpr ⟨wl_in7, List.forall_mem_append.mpr ⟨wl_in8, List.forall_mem_append.mpr ⟨wl_in9, List.forall_mem_append.mpr ⟨wl_in10, List.forall_mem_append.mpr ⟨wl_in11, List.forall_mem_append.mpr ⟨wl_in12, List.forall_mem_append.mpr ⟨wl_in13, List.forall_mem_append.mpr ⟨wl_in14, List.forall_mem_append.mpr ⟨wl_in15, List.forall_mem_append.mpr ⟨wl_in16, List.forall_mem_append.mpr ⟨wl_in17, List.forall_mem_append.mpr ⟨wl_in18, List.forall_mem_append.mpr ⟨wl_in19, List.forall_mem_append.mpr ⟨wl_in20, List.forall_mem_append.mpr ⟨wl_in21, List.forall_mem_append.mpr ⟨wl_in22, List.forall_mem_append.mpr ⟨wl_in23, List.forall_mem_append.mpr ⟨wl_in24, List.forall_mem_append.mpr ⟨wl_in25, List.forall_mem_append.mpr ⟨wl_in26, List.forall_mem_append.mpr ⟨wl_in27, List.forall_mem_append.mpr ⟨wl_in28, List.forall_mem_append.mpr ⟨wl_in29, List.forall_mem_append.mpr ⟨wl_in30, List.forall_mem_append.mpr ⟨wl_in31, List.forall_mem_append.mpr ⟨wl_in32, List.forall_mem_append.mpr ⟨wl_in33, List.forall_mem_append.mpr ⟨wl_in34, List.forall_mem_append.mpr ⟨wl_in35, List.forall_mem_append.mpr ⟨wl_in36, List.forall_mem_append.mpr ⟨wl_in37, List.forall_mem_append.mpr ⟨wl_in38, List.forall_mem_append.mpr ⟨wl_in39, List.forall_mem_append.mpr ⟨wl_in40, List.forall_mem_append.mpr ⟨wl_in41, List.forall_mem_append.mpr ⟨wl_in42, wl_in43⟩⟩⟩⟩⟩⟩⟩⟩⟩⟩⟩⟩⟩⟩⟩⟩⟩⟩⟩⟩⟩⟩⟩⟩⟩⟩⟩⟩⟩⟩⟩⟩⟩⟩⟩⟩⟩⟩⟩⟩⟩⟩, inX7⟩, inX8⟩, inX5⟩, inX6⟩, inX1⟩, inX4⟩, inX0⟩, inX3⟩, inX2⟩, fun _ h => absurd h List.not_mem_nil⟩
