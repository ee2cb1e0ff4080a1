theorem lw_in {i k L : Nat} (hk : k < 4) (hi : i + 4 ≤ L) (hL : L ≤ 2048) : vp_in (nI i + nI k) L := by
  rw [nI_add]
  exact vp_in_nI (by omega) (by omega)
theorem zdsL_yX7_letter_v : yX7_letter.cls = RX7 ∧ yX7_letter.cls ≠ "java/lang/invoke/MethodHandle" ∧ yX7_letter.cls ≠ "java/lang/invoke/VarHandle" ∧ (parseMethodDescriptor yX7_letter.desc).map (fun d => d.parameters.length) = some 1 := by decide +kernel
theorem zdsL_yX8_letter_v : yX8_letter.cls = RX8 ∧ yX8_letter.cls ≠ "java/lang/invoke/MethodHandle" ∧ yX8_letter.cls ≠ "java/lang/invoke/VarHandle" ∧ (parseMethodDescriptor yX8_letter.desc).map (fun d => d.parameters.length) = some 1 := by decide +kernel
theorem zdsL_yX7_board_v : yX7_board.cls = RX7 ∧ yX7_board.cls ≠ "java/lang/invoke/MethodHandle" ∧ yX7_board.cls ≠ "java/lang/invoke/VarHandle" ∧ (parseMethodDescriptor yX7_board.desc).map (fun d => d.parameters.length) = some 0 := by decide +kernel
theorem zdsL_yX8_board_v : yX8_board.cls = RX8 ∧ yX8_board.cls ≠ "java/lang/invoke/MethodHandle" ∧ yX8_board.cls ≠ "java/lang/invoke/VarHandle" ∧ (parseMethodDescriptor yX8_board.desc).map (fun d => d.parameters.length) = some 0 := by decide +kernel
theorem zdsL_yX7_tile_v : yX7_tile.cls = RX7 ∧ yX7_tile.cls ≠ "java/lang/invoke/MethodHandle" ∧ yX7_tile.cls ≠ "java/lang/invoke/VarHandle" ∧ (parseMethodDescriptor yX7_tile.desc).map (fun d => d.parameters.length) = some 2 := by decide +kernel
theorem zdsL_yX8_tile_v : yX8_tile.cls = RX8 ∧ yX8_tile.cls ≠ "java/lang/invoke/MethodHandle" ∧ yX8_tile.cls ≠ "java/lang/invoke/VarHandle" ∧ (parseMethodDescriptor yX8_tile.desc).map (fun d => d.parameters.length) = some 2 := by decide +kernel
theorem zdsL_yX7_of_v : yX7_of.cls = RX7 ∧ yX7_of.cls ≠ "java/lang/invoke/MethodHandle" ∧ yX7_of.cls ≠ "java/lang/invoke/VarHandle" ∧ (parseMethodDescriptor yX7_of.desc).map (fun d => d.parameters.length) = some 2 := by decide +kernel
theorem zdsL_yX8_of_v : yX8_of.cls = RX8 ∧ yX8_of.cls ≠ "java/lang/invoke/MethodHandle" ∧ yX8_of.cls ≠ "java/lang/invoke/VarHandle" ∧ (parseMethodDescriptor yX8_of.desc).map (fun d => d.parameters.length) = some 2 := by decide +kernel
theorem zdsL_yX7_places_v : yX7_places.cls = RX7 ∧ yX7_places.cls ≠ "java/lang/invoke/MethodHandle" ∧ yX7_places.cls ≠ "java/lang/invoke/VarHandle" ∧ (parseMethodDescriptor yX7_places.desc).map (fun d => d.parameters.length) = some 2 := by decide +kernel
theorem zdsL_yX8_places_v : yX8_places.cls = RX8 ∧ yX8_places.cls ≠ "java/lang/invoke/MethodHandle" ∧ yX8_places.cls ≠ "java/lang/invoke/VarHandle" ∧ (parseMethodDescriptor yX8_places.desc).map (fun d => d.parameters.length) = some 2 := by decide +kernel
theorem zdsL_yX7_ink_v : yX7_ink.cls = RX7 ∧ yX7_ink.cls ≠ "java/lang/invoke/MethodHandle" ∧ yX7_ink.cls ≠ "java/lang/invoke/VarHandle" ∧ (parseMethodDescriptor yX7_ink.desc).map (fun d => d.parameters.length) = some 1 := by decide +kernel
theorem zdsL_yX8_ink_v : yX8_ink.cls = RX8 ∧ yX8_ink.cls ≠ "java/lang/invoke/MethodHandle" ∧ yX8_ink.cls ≠ "java/lang/invoke/VarHandle" ∧ (parseMethodDescriptor yX8_ink.desc).map (fun d => d.parameters.length) = some 1 := by decide +kernel
theorem zdsL_yX7_wipes_v : yX7_wipes.cls = RX7 ∧ yX7_wipes.cls ≠ "java/lang/invoke/MethodHandle" ∧ yX7_wipes.cls ≠ "java/lang/invoke/VarHandle" ∧ (parseMethodDescriptor yX7_wipes.desc).map (fun d => d.parameters.length) = some 0 := by decide +kernel
theorem zdsL_yX8_wipes_v : yX8_wipes.cls = RX8 ∧ yX8_wipes.cls ≠ "java/lang/invoke/MethodHandle" ∧ yX8_wipes.cls ≠ "java/lang/invoke/VarHandle" ∧ (parseMethodDescriptor yX8_wipes.desc).map (fun d => d.parameters.length) = some 0 := by decide +kernel
theorem zdsL_yX7_solid_v : yX7_solid.cls = RX7 ∧ yX7_solid.cls ≠ "java/lang/invoke/MethodHandle" ∧ yX7_solid.cls ≠ "java/lang/invoke/VarHandle" ∧ (parseMethodDescriptor yX7_solid.desc).map (fun d => d.parameters.length) = some 1 := by decide +kernel
theorem zdsL_yX8_solid_v : yX8_solid.cls = RX8 ∧ yX8_solid.cls ≠ "java/lang/invoke/MethodHandle" ∧ yX8_solid.cls ≠ "java/lang/invoke/VarHandle" ∧ (parseMethodDescriptor yX8_solid.desc).map (fun d => d.parameters.length) = some 1 := by decide +kernel
theorem zdsL_yX7_roll_v : yX7_roll.cls = RX7 ∧ yX7_roll.cls ≠ "java/lang/invoke/MethodHandle" ∧ yX7_roll.cls ≠ "java/lang/invoke/VarHandle" ∧ (parseMethodDescriptor yX7_roll.desc).map (fun d => d.parameters.length) = some 1 := by decide +kernel
theorem zdsL_yX8_roll_v : yX8_roll.cls = RX8 ∧ yX8_roll.cls ≠ "java/lang/invoke/MethodHandle" ∧ yX8_roll.cls ≠ "java/lang/invoke/VarHandle" ∧ (parseMethodDescriptor yX8_roll.desc).map (fun d => d.parameters.length) = some 1 := by decide +kernel
theorem zdsL_yX7_ways_v : yX7_ways.cls = RX7 ∧ yX7_ways.cls ≠ "java/lang/invoke/MethodHandle" ∧ yX7_ways.cls ≠ "java/lang/invoke/VarHandle" ∧ (parseMethodDescriptor yX7_ways.desc).map (fun d => d.parameters.length) = some 0 := by decide +kernel
theorem zdsL_yX8_ways_v : yX8_ways.cls = RX8 ∧ yX8_ways.cls ≠ "java/lang/invoke/MethodHandle" ∧ yX8_ways.cls ≠ "java/lang/invoke/VarHandle" ∧ (parseMethodDescriptor yX8_ways.desc).map (fun d => d.parameters.length) = some 0 := by decide +kernel
theorem zdsL_yX7_walks_v : yX7_walks.cls = RX7 ∧ yX7_walks.cls ≠ "java/lang/invoke/MethodHandle" ∧ yX7_walks.cls ≠ "java/lang/invoke/VarHandle" ∧ (parseMethodDescriptor yX7_walks.desc).map (fun d => d.parameters.length) = some 0 := by decide +kernel
theorem zdsL_yX8_walks_v : yX8_walks.cls = RX8 ∧ yX8_walks.cls ≠ "java/lang/invoke/MethodHandle" ∧ yX8_walks.cls ≠ "java/lang/invoke/VarHandle" ∧ (parseMethodDescriptor yX8_walks.desc).map (fun d => d.parameters.length) = some 0 := by decide +kernel
theorem zdsL_yX7_judge_v : yX7_judge.cls = RX7 ∧ yX7_judge.cls ≠ "java/lang/invoke/MethodHandle" ∧ yX7_judge.cls ≠ "java/lang/invoke/VarHandle" ∧ (parseMethodDescriptor yX7_judge.desc).map (fun d => d.parameters.length) = some 0 := by decide +kernel
theorem zdsL_yX8_judge_v : yX8_judge.cls = RX8 ∧ yX8_judge.cls ≠ "java/lang/invoke/MethodHandle" ∧ yX8_judge.cls ≠ "java/lang/invoke/VarHandle" ∧ (parseMethodDescriptor yX8_judge.desc).map (fun d => d.parameters.length) = some 0 := by decide +kernel
theorem zdsL_yX7_undo_v : yX7_undo.cls = RX7 ∧ yX7_undo.cls ≠ "java/lang/invoke/MethodHandle" ∧ yX7_undo.cls ≠ "java/lang/invoke/VarHandle" ∧ (parseMethodDescriptor yX7_undo.desc).map (fun d => d.parameters.length) = some 0 := by decide +kernel
theorem zdsL_yX8_undo_v : yX8_undo.cls = RX8 ∧ yX8_undo.cls ≠ "java/lang/invoke/MethodHandle" ∧ yX8_undo.cls ≠ "java/lang/invoke/VarHandle" ∧ (parseMethodDescriptor yX8_undo.desc).map (fun d => d.parameters.length) = some 0 := by decide +kernel
theorem zdsL_yX7_reached_v : yX7_reached.cls = RX7 ∧ yX7_reached.cls ≠ "java/lang/invoke/MethodHandle" ∧ yX7_reached.cls ≠ "java/lang/invoke/VarHandle" ∧ (parseMethodDescriptor yX7_reached.desc).map (fun d => d.parameters.length) = some 1 := by decide +kernel
theorem zdsL_yX8_reached_v : yX8_reached.cls = RX8 ∧ yX8_reached.cls ≠ "java/lang/invoke/MethodHandle" ∧ yX8_reached.cls ≠ "java/lang/invoke/VarHandle" ∧ (parseMethodDescriptor yX8_reached.desc).map (fun d => d.parameters.length) = some 1 := by decide +kernel
theorem zdsL_yX7_soonest_v : yX7_soonest.cls = RX7 ∧ yX7_soonest.cls ≠ "java/lang/invoke/MethodHandle" ∧ yX7_soonest.cls ≠ "java/lang/invoke/VarHandle" ∧ (parseMethodDescriptor yX7_soonest.desc).map (fun d => d.parameters.length) = some 2 := by decide +kernel
theorem zdsL_yX8_soonest_v : yX8_soonest.cls = RX8 ∧ yX8_soonest.cls ≠ "java/lang/invoke/MethodHandle" ∧ yX8_soonest.cls ≠ "java/lang/invoke/VarHandle" ∧ (parseMethodDescriptor yX8_soonest.desc).map (fun d => d.parameters.length) = some 2 := by decide +kernel
theorem zdsL_yX7_walk_v : yX7_walk.cls = RX7 ∧ yX7_walk.cls ≠ "java/lang/invoke/MethodHandle" ∧ yX7_walk.cls ≠ "java/lang/invoke/VarHandle" ∧ (parseMethodDescriptor yX7_walk.desc).map (fun d => d.parameters.length) = some 3 := by decide +kernel
theorem zdsL_yX8_walk_v : yX8_walk.cls = RX8 ∧ yX8_walk.cls ≠ "java/lang/invoke/MethodHandle" ∧ yX8_walk.cls ≠ "java/lang/invoke/VarHandle" ∧ (parseMethodDescriptor yX8_walk.desc).map (fun d => d.parameters.length) = some 3 := by decide +kernel
theorem zdsL_yX7_faces_v : yX7_faces.cls = RX7 ∧ yX7_faces.cls ≠ "java/lang/invoke/MethodHandle" ∧ yX7_faces.cls ≠ "java/lang/invoke/VarHandle" ∧ (parseMethodDescriptor yX7_faces.desc).map (fun d => d.parameters.length) = some 1 := by decide +kernel
theorem zdsL_yX8_faces_v : yX8_faces.cls = RX8 ∧ yX8_faces.cls ≠ "java/lang/invoke/MethodHandle" ∧ yX8_faces.cls ≠ "java/lang/invoke/VarHandle" ∧ (parseMethodDescriptor yX8_faces.desc).map (fun d => d.parameters.length) = some 1 := by decide +kernel
theorem zdsL_yX7_fill_v : yX7_fill.cls = RX7 ∧ yX7_fill.cls ≠ "java/lang/invoke/MethodHandle" ∧ yX7_fill.cls ≠ "java/lang/invoke/VarHandle" ∧ (parseMethodDescriptor yX7_fill.desc).map (fun d => d.parameters.length) = some 1 := by decide +kernel
theorem zdsL_yX8_fill_v : yX8_fill.cls = RX8 ∧ yX8_fill.cls ≠ "java/lang/invoke/MethodHandle" ∧ yX8_fill.cls ≠ "java/lang/invoke/VarHandle" ∧ (parseMethodDescriptor yX8_fill.desc).map (fun d => d.parameters.length) = some 1 := by decide +kernel
theorem zdsL_yX7_needed_v : yX7_needed.cls = RX7 ∧ yX7_needed.cls ≠ "java/lang/invoke/MethodHandle" ∧ yX7_needed.cls ≠ "java/lang/invoke/VarHandle" ∧ (parseMethodDescriptor yX7_needed.desc).map (fun d => d.parameters.length) = some 1 := by decide +kernel
theorem zdsL_yX8_needed_v : yX8_needed.cls = RX8 ∧ yX8_needed.cls ≠ "java/lang/invoke/MethodHandle" ∧ yX8_needed.cls ≠ "java/lang/invoke/VarHandle" ∧ (parseMethodDescriptor yX8_needed.desc).map (fun d => d.parameters.length) = some 1 := by decide +kernel
theorem zdsL_yX7_paint_v : yX7_paint.cls = RX7 ∧ yX7_paint.cls ≠ "java/lang/invoke/MethodHandle" ∧ yX7_paint.cls ≠ "java/lang/invoke/VarHandle" ∧ (parseMethodDescriptor yX7_paint.desc).map (fun d => d.parameters.length) = some 2 := by decide +kernel
theorem zdsL_yX8_paint_v : yX8_paint.cls = RX8 ∧ yX8_paint.cls ≠ "java/lang/invoke/MethodHandle" ∧ yX8_paint.cls ≠ "java/lang/invoke/VarHandle" ∧ (parseMethodDescriptor yX8_paint.desc).map (fun d => d.parameters.length) = some 2 := by decide +kernel
theorem zdsL_yX7_likely_v : yX7_likely.cls = RX7 ∧ yX7_likely.cls ≠ "java/lang/invoke/MethodHandle" ∧ yX7_likely.cls ≠ "java/lang/invoke/VarHandle" ∧ (parseMethodDescriptor yX7_likely.desc).map (fun d => d.parameters.length) = some 3 := by decide +kernel
theorem zdsL_yX8_likely_v : yX8_likely.cls = RX8 ∧ yX8_likely.cls ≠ "java/lang/invoke/MethodHandle" ∧ yX8_likely.cls ≠ "java/lang/invoke/VarHandle" ∧ (parseMethodDescriptor yX8_likely.desc).map (fun d => d.parameters.length) = some 3 := by decide +kernel
theorem zdsL_yX7_lots_v : yX7_lots.cls = RX7 ∧ yX7_lots.cls ≠ "java/lang/invoke/MethodHandle" ∧ yX7_lots.cls ≠ "java/lang/invoke/VarHandle" ∧ (parseMethodDescriptor yX7_lots.desc).map (fun d => d.parameters.length) = some 3 := by decide +kernel
theorem zdsL_yX8_lots_v : yX8_lots.cls = RX8 ∧ yX8_lots.cls ≠ "java/lang/invoke/MethodHandle" ∧ yX8_lots.cls ≠ "java/lang/invoke/VarHandle" ∧ (parseMethodDescriptor yX8_lots.desc).map (fun d => d.parameters.length) = some 3 := by decide +kernel
theorem zdsL_yX7_list_v : yX7_list.cls = RX7 ∧ yX7_list.cls ≠ "java/lang/invoke/MethodHandle" ∧ yX7_list.cls ≠ "java/lang/invoke/VarHandle" ∧ (parseMethodDescriptor yX7_list.desc).map (fun d => d.parameters.length) = some 2 := by decide +kernel
theorem zdsL_yX8_list_v : yX8_list.cls = RX8 ∧ yX8_list.cls ≠ "java/lang/invoke/MethodHandle" ∧ yX8_list.cls ≠ "java/lang/invoke/VarHandle" ∧ (parseMethodDescriptor yX8_list.desc).map (fun d => d.parameters.length) = some 2 := by decide +kernel
theorem zdsL_yX7_put_v : yX7_put.cls = RX7 ∧ yX7_put.cls ≠ "java/lang/invoke/MethodHandle" ∧ yX7_put.cls ≠ "java/lang/invoke/VarHandle" ∧ (parseMethodDescriptor yX7_put.desc).map (fun d => d.parameters.length) = some 3 := by decide +kernel
theorem zdsL_yX8_put_v : yX8_put.cls = RX8 ∧ yX8_put.cls ≠ "java/lang/invoke/MethodHandle" ∧ yX8_put.cls ≠ "java/lang/invoke/VarHandle" ∧ (parseMethodDescriptor yX8_put.desc).map (fun d => d.parameters.length) = some 3 := by decide +kernel
theorem zdsL_yX7_look_v : yX7_look.cls = RX7 ∧ yX7_look.cls ≠ "java/lang/invoke/MethodHandle" ∧ yX7_look.cls ≠ "java/lang/invoke/VarHandle" ∧ (parseMethodDescriptor yX7_look.desc).map (fun d => d.parameters.length) = some 2 := by decide +kernel
theorem zdsL_yX8_look_v : yX8_look.cls = RX8 ∧ yX8_look.cls ≠ "java/lang/invoke/MethodHandle" ∧ yX8_look.cls ≠ "java/lang/invoke/VarHandle" ∧ (parseMethodDescriptor yX8_look.desc).map (fun d => d.parameters.length) = some 2 := by decide +kernel
theorem zdsL_yX7_lays_v : yX7_lays.cls = RX7 ∧ yX7_lays.cls ≠ "java/lang/invoke/MethodHandle" ∧ yX7_lays.cls ≠ "java/lang/invoke/VarHandle" ∧ (parseMethodDescriptor yX7_lays.desc).map (fun d => d.parameters.length) = some 2 := by decide +kernel
theorem zdsL_yX8_lays_v : yX8_lays.cls = RX8 ∧ yX8_lays.cls ≠ "java/lang/invoke/MethodHandle" ∧ yX8_lays.cls ≠ "java/lang/invoke/VarHandle" ∧ (parseMethodDescriptor yX8_lays.desc).map (fun d => d.parameters.length) = some 2 := by decide +kernel
theorem zdsL_yX7_tells_v : yX7_tells.cls = RX7 ∧ yX7_tells.cls ≠ "java/lang/invoke/MethodHandle" ∧ yX7_tells.cls ≠ "java/lang/invoke/VarHandle" ∧ (parseMethodDescriptor yX7_tells.desc).map (fun d => d.parameters.length) = some 1 := by decide +kernel
theorem zdsL_yX8_tells_v : yX8_tells.cls = RX8 ∧ yX8_tells.cls ≠ "java/lang/invoke/MethodHandle" ∧ yX8_tells.cls ≠ "java/lang/invoke/VarHandle" ∧ (parseMethodDescriptor yX8_tells.desc).map (fun d => d.parameters.length) = some 1 := by decide +kernel
theorem zdsL_yX7_rack_v : yX7_rack.cls = RX7 ∧ yX7_rack.cls ≠ "java/lang/invoke/MethodHandle" ∧ yX7_rack.cls ≠ "java/lang/invoke/VarHandle" ∧ (parseMethodDescriptor yX7_rack.desc).map (fun d => d.parameters.length) = some 3 := by decide +kernel
theorem zdsL_yX8_rack_v : yX8_rack.cls = RX8 ∧ yX8_rack.cls ≠ "java/lang/invoke/MethodHandle" ∧ yX8_rack.cls ≠ "java/lang/invoke/VarHandle" ∧ (parseMethodDescriptor yX8_rack.desc).map (fun d => d.parameters.length) = some 3 := by decide +kernel
theorem zdsL_yX7_racks_v : yX7_racks.cls = RX7 ∧ yX7_racks.cls ≠ "java/lang/invoke/MethodHandle" ∧ yX7_racks.cls ≠ "java/lang/invoke/VarHandle" ∧ (parseMethodDescriptor yX7_racks.desc).map (fun d => d.parameters.length) = some 3 := by decide +kernel
theorem zdsL_yX8_racks_v : yX8_racks.cls = RX8 ∧ yX8_racks.cls ≠ "java/lang/invoke/MethodHandle" ∧ yX8_racks.cls ≠ "java/lang/invoke/VarHandle" ∧ (parseMethodDescriptor yX8_racks.desc).map (fun d => d.parameters.length) = some 3 := by decide +kernel
theorem zdsL_yX7_racked_v : yX7_racked.cls = RX7 ∧ yX7_racked.cls ≠ "java/lang/invoke/MethodHandle" ∧ yX7_racked.cls ≠ "java/lang/invoke/VarHandle" ∧ (parseMethodDescriptor yX7_racked.desc).map (fun d => d.parameters.length) = some 3 := by decide +kernel
theorem zdsL_yX8_racked_v : yX8_racked.cls = RX8 ∧ yX8_racked.cls ≠ "java/lang/invoke/MethodHandle" ∧ yX8_racked.cls ≠ "java/lang/invoke/VarHandle" ∧ (parseMethodDescriptor yX8_racked.desc).map (fun d => d.parameters.length) = some 3 := by decide +kernel
theorem zdsL_yX7_like_v : yX7_like.cls = RX7 ∧ yX7_like.cls ≠ "java/lang/invoke/MethodHandle" ∧ yX7_like.cls ≠ "java/lang/invoke/VarHandle" ∧ (parseMethodDescriptor yX7_like.desc).map (fun d => d.parameters.length) = some 2 := by decide +kernel
theorem zdsL_yX8_like_v : yX8_like.cls = RX8 ∧ yX8_like.cls ≠ "java/lang/invoke/MethodHandle" ∧ yX8_like.cls ≠ "java/lang/invoke/VarHandle" ∧ (parseMethodDescriptor yX8_like.desc).map (fun d => d.parameters.length) = some 2 := by decide +kernel
theorem zdsL_yX7_image_v : yX7_image.cls = RX7 ∧ yX7_image.cls ≠ "java/lang/invoke/MethodHandle" ∧ yX7_image.cls ≠ "java/lang/invoke/VarHandle" ∧ (parseMethodDescriptor yX7_image.desc).map (fun d => d.parameters.length) = some 0 := by decide +kernel
theorem zdsL_yX8_image_v : yX8_image.cls = RX8 ∧ yX8_image.cls ≠ "java/lang/invoke/MethodHandle" ∧ yX8_image.cls ≠ "java/lang/invoke/VarHandle" ∧ (parseMethodDescriptor yX8_image.desc).map (fun d => d.parameters.length) = some 0 := by decide +kernel
theorem zdsL_yX7_on_v : yX7_on.cls = RX7 ∧ yX7_on.cls ≠ "java/lang/invoke/MethodHandle" ∧ yX7_on.cls ≠ "java/lang/invoke/VarHandle" ∧ (parseMethodDescriptor yX7_on.desc).map (fun d => d.parameters.length) = some 0 := by decide +kernel
theorem zdsL_yX8_on_v : yX8_on.cls = RX8 ∧ yX8_on.cls ≠ "java/lang/invoke/MethodHandle" ∧ yX8_on.cls ≠ "java/lang/invoke/VarHandle" ∧ (parseMethodDescriptor yX8_on.desc).map (fun d => d.parameters.length) = some 0 := by decide +kernel
theorem zdsL_yX7_count_v : yX7_count.cls = RX7 ∧ yX7_count.cls ≠ "java/lang/invoke/MethodHandle" ∧ yX7_count.cls ≠ "java/lang/invoke/VarHandle" ∧ (parseMethodDescriptor yX7_count.desc).map (fun d => d.parameters.length) = some 1 := by decide +kernel
theorem zdsL_yX8_count_v : yX8_count.cls = RX8 ∧ yX8_count.cls ≠ "java/lang/invoke/MethodHandle" ∧ yX8_count.cls ≠ "java/lang/invoke/VarHandle" ∧ (parseMethodDescriptor yX8_count.desc).map (fun d => d.parameters.length) = some 1 := by decide +kernel
set_option maxHeartbeats 4000000 in
set_option maxRecDepth 100000 in
theorem law_0 {p : Program} {l : Launch} {e : Env} {s : State} {m : MethodId} {args : Array Value} {below : List Frame} {meth : Method} {c : Code} {Q : State → Prop} {D : va_G} {A : Nat → Prop} {ad ad2 : Nat → Nat} {cy cy2 : Nat → ClassId} {σ τ : zz_St} {b L i nc ns : Nat} {xs : Nat → Int32} (K : zr_K p s m args c cL_law 4 RL wsL_law D (tysC cy ++ tysM cy2) A) (hNw : ∀ w ∈ nwC, va_Nw w s) (hcnt : nc ≤ room_1.cells ∧ ns ≤ room_1.slots) (hX : va_X b L xs s s.heap) (hbl : b < s.heap.size) (hbA : ¬ A b) (hi : i + 4 ≤ L) (hL : L ≤ 2048) (h : Rel σ τ) (next : ∀ σ2 τ2 : zz_St, Rel σ2 τ2 → zr_G p l e room_1 s m args below meth c Q D A 4 nc ns 1119 [(3, .int (nI i)), (2, .ref (ad2 0)), (1, .ref (ad 0)), (0, .ref b)] [] (wC ad cy τ2 ++ wM ad2 cy2 σ2)) : zr_G p l e room_1 s m args below meth c Q D A 4 nc ns 184 [(3, .int (nI i)), (2, .ref (ad2 0)), (1, .ref (ad 0)), (0, .ref b)] [] (wC ad cy τ ++ wM ad2 cy2 σ) := by
  refine zr_aload_n K 2 dL_law_184 rfl rfl ?_
  refine zr_aload_n K 3 dL_law_185 rfl rfl ?_
  refine zr_iload_n K 0 dL_law_186 rfl rfl ?_
  refine zr_iconst K dL_law_187 (by decide : _ = (1 : Int32)) ?_
  refine zr_iadd K dL_law_188 ?_
  refine zr_sld K hX hbl hbA (lw_in (k := 1) (by decide) hi hL) dL_law_189 ?_
  refine zl_Ci K hNw [.int (xs (nI i + 1).toNatClampNeg)] (zc7_letter l D ad cy (xs (nI i + 1).toNatClampNeg) τ _ (R_letter h (xs (nI i + 1).toNatClampNeg))) gL_law_X7_letter rfl ⟨rfl, rfl⟩ zdsL_yX7_letter_v ⟨(Nat.le_of_ble_eq_true rfl), (Nat.le_of_ble_eq_true rfl)⟩ hcnt rfl rfl (Nat.le_of_ble_eq_true rfl) dL_law_190 (fun r τ2 hq => ?_)
  refine zr_aload_n K 1 dL_law_193 rfl rfl ?_
  refine zr_aload_n K 3 dL_law_194 rfl rfl ?_
  refine zr_iload_n K 0 dL_law_195 rfl rfl ?_
  refine zr_iconst K dL_law_196 (by decide : _ = (1 : Int32)) ?_
  refine zr_iadd K dL_law_197 ?_
  refine zr_sld K hX hbl hbA (lw_in (k := 1) (by decide) hi hL) dL_law_198 ?_
  refine zl_Mi K [.int (xs (nI i + 1).toNatClampNeg)] (zc8_letter l D ad2 cy2 (xs (nI i + 1).toNatClampNeg) σ _ hq) gL_law_X8_letter rfl ⟨rfl, rfl⟩ zdsL_yX8_letter_v ⟨(Nat.le_of_ble_eq_true rfl), (Nat.le_of_ble_eq_true rfl)⟩ hcnt rfl rfl (Nat.le_of_ble_eq_true rfl) dL_law_199 (fun r2 σ2 hq2 => ?_)
  obtain ⟨hab, hrel⟩ := hq2
  exact zr_icmp_eq K 1119 dL_law_202 rfl (fun _ => next _ _ hrel) (fun h9 => absurd hab h9)
set_option maxHeartbeats 4000000 in
set_option maxRecDepth 100000 in
theorem law_1 {p : Program} {l : Launch} {e : Env} {s : State} {m : MethodId} {args : Array Value} {below : List Frame} {meth : Method} {c : Code} {Q : State → Prop} {D : va_G} {A : Nat → Prop} {ad ad2 : Nat → Nat} {cy cy2 : Nat → ClassId} {σ τ : zz_St} {b L i nc ns : Nat} {xs : Nat → Int32} (K : zr_K p s m args c cL_law 4 RL wsL_law D (tysC cy ++ tysM cy2) A) (hNw : ∀ w ∈ nwC, va_Nw w s) (hcnt : nc ≤ room_1.cells ∧ ns ≤ room_1.slots) (hX : va_X b L xs s s.heap) (hbl : b < s.heap.size) (hbA : ¬ A b) (hi : i + 4 ≤ L) (hL : L ≤ 2048) (h : Rel σ τ) (next : ∀ σ2 τ2 : zz_St, Rel σ2 τ2 → zr_G p l e room_1 s m args below meth c Q D A 4 nc ns 1119 [(3, .int (nI i)), (2, .ref (ad2 0)), (1, .ref (ad 0)), (0, .ref b)] [] (wC ad cy τ2 ++ wM ad2 cy2 σ2)) : zr_G p l e room_1 s m args below meth c Q D A 4 nc ns 207 [(3, .int (nI i)), (2, .ref (ad2 0)), (1, .ref (ad 0)), (0, .ref b)] [] (wC ad cy τ ++ wM ad2 cy2 σ) := by
  refine zr_aload_n K 2 dL_law_207 rfl rfl ?_
  refine zl_Ci K hNw [] (zc7_board l D ad cy  τ _ (R_board h )) gL_law_X7_board rfl ⟨rfl, rfl⟩ zdsL_yX7_board_v ⟨(Nat.le_of_ble_eq_true rfl), (Nat.le_of_ble_eq_true rfl)⟩ hcnt rfl rfl (Nat.le_of_ble_eq_true rfl) dL_law_208 (fun r τ2 hq => ?_)
  refine zr_aload_n K 1 dL_law_211 rfl rfl ?_
  refine zl_Mi K [] (zc8_board l D ad2 cy2  σ _ hq) gL_law_X8_board rfl ⟨rfl, rfl⟩ zdsL_yX8_board_v ⟨(Nat.le_of_ble_eq_true rfl), (Nat.le_of_ble_eq_true rfl)⟩ hcnt rfl rfl (Nat.le_of_ble_eq_true rfl) dL_law_212 (fun r2 σ2 hq2 => ?_)
  obtain ⟨hab, hrel⟩ := hq2
  exact zr_icmp_eq K 1119 dL_law_215 rfl (fun _ => next _ _ hrel) (fun h9 => absurd hab h9)
set_option maxHeartbeats 4000000 in
set_option maxRecDepth 100000 in
theorem law_2 {p : Program} {l : Launch} {e : Env} {s : State} {m : MethodId} {args : Array Value} {below : List Frame} {meth : Method} {c : Code} {Q : State → Prop} {D : va_G} {A : Nat → Prop} {ad ad2 : Nat → Nat} {cy cy2 : Nat → ClassId} {σ τ : zz_St} {b L i nc ns : Nat} {xs : Nat → Int32} (K : zr_K p s m args c cL_law 4 RL wsL_law D (tysC cy ++ tysM cy2) A) (hNw : ∀ w ∈ nwC, va_Nw w s) (hcnt : nc ≤ room_1.cells ∧ ns ≤ room_1.slots) (hX : va_X b L xs s s.heap) (hbl : b < s.heap.size) (hbA : ¬ A b) (hi : i + 4 ≤ L) (hL : L ≤ 2048) (h : Rel σ τ) (next : ∀ σ2 τ2 : zz_St, Rel σ2 τ2 → zr_G p l e room_1 s m args below meth c Q D A 4 nc ns 1119 [(3, .int (nI i)), (2, .ref (ad2 0)), (1, .ref (ad 0)), (0, .ref b)] [] (wC ad cy τ2 ++ wM ad2 cy2 σ2)) : zr_G p l e room_1 s m args below meth c Q D A 4 nc ns 220 [(3, .int (nI i)), (2, .ref (ad2 0)), (1, .ref (ad 0)), (0, .ref b)] [] (wC ad cy τ ++ wM ad2 cy2 σ) := by
  refine zr_aload_n K 2 dL_law_220 rfl rfl ?_
  refine zr_aload_n K 3 dL_law_221 rfl rfl ?_
  refine zr_iload_n K 0 dL_law_222 rfl rfl ?_
  refine zr_iconst K dL_law_223 (by decide : _ = (1 : Int32)) ?_
  refine zr_iadd K dL_law_224 ?_
  refine zr_sld K hX hbl hbA (lw_in (k := 1) (by decide) hi hL) dL_law_225 ?_
  refine zr_aload_n K 3 dL_law_226 rfl rfl ?_
  refine zr_iload_n K 0 dL_law_227 rfl rfl ?_
  refine zr_iconst K dL_law_228 (by decide : _ = (2 : Int32)) ?_
  refine zr_iadd K dL_law_229 ?_
  refine zr_sld K hX hbl hbA (lw_in (k := 2) (by decide) hi hL) dL_law_230 ?_
  refine zl_Ci K hNw [.int (xs (nI i + 1).toNatClampNeg), .int (xs (nI i + 2).toNatClampNeg)] (zc7_tile l D ad cy (xs (nI i + 1).toNatClampNeg) (xs (nI i + 2).toNatClampNeg) τ _ (R_tile h (xs (nI i + 1).toNatClampNeg) (xs (nI i + 2).toNatClampNeg))) gL_law_X7_tile rfl ⟨rfl, rfl⟩ zdsL_yX7_tile_v ⟨(Nat.le_of_ble_eq_true rfl), (Nat.le_of_ble_eq_true rfl)⟩ hcnt rfl rfl (Nat.le_of_ble_eq_true rfl) dL_law_231 (fun r τ2 hq => ?_)
  refine zr_aload_n K 1 dL_law_234 rfl rfl ?_
  refine zr_aload_n K 3 dL_law_235 rfl rfl ?_
  refine zr_iload_n K 0 dL_law_236 rfl rfl ?_
  refine zr_iconst K dL_law_237 (by decide : _ = (1 : Int32)) ?_
  refine zr_iadd K dL_law_238 ?_
  refine zr_sld K hX hbl hbA (lw_in (k := 1) (by decide) hi hL) dL_law_239 ?_
  refine zr_aload_n K 3 dL_law_240 rfl rfl ?_
  refine zr_iload_n K 0 dL_law_241 rfl rfl ?_
  refine zr_iconst K dL_law_242 (by decide : _ = (2 : Int32)) ?_
  refine zr_iadd K dL_law_243 ?_
  refine zr_sld K hX hbl hbA (lw_in (k := 2) (by decide) hi hL) dL_law_244 ?_
  refine zl_Mi K [.int (xs (nI i + 1).toNatClampNeg), .int (xs (nI i + 2).toNatClampNeg)] (zc8_tile l D ad2 cy2 (xs (nI i + 1).toNatClampNeg) (xs (nI i + 2).toNatClampNeg) σ _ hq) gL_law_X8_tile rfl ⟨rfl, rfl⟩ zdsL_yX8_tile_v ⟨(Nat.le_of_ble_eq_true rfl), (Nat.le_of_ble_eq_true rfl)⟩ hcnt rfl rfl (Nat.le_of_ble_eq_true rfl) dL_law_245 (fun r2 σ2 hq2 => ?_)
  obtain ⟨hab, hrel⟩ := hq2
  exact zr_icmp_eq K 1119 dL_law_248 rfl (fun _ => next _ _ hrel) (fun h9 => absurd hab h9)
set_option maxHeartbeats 4000000 in
set_option maxRecDepth 100000 in
theorem law_3 {p : Program} {l : Launch} {e : Env} {s : State} {m : MethodId} {args : Array Value} {below : List Frame} {meth : Method} {c : Code} {Q : State → Prop} {D : va_G} {A : Nat → Prop} {ad ad2 : Nat → Nat} {cy cy2 : Nat → ClassId} {σ τ : zz_St} {b L i nc ns : Nat} {xs : Nat → Int32} (K : zr_K p s m args c cL_law 4 RL wsL_law D (tysC cy ++ tysM cy2) A) (hNw : ∀ w ∈ nwC, va_Nw w s) (hcnt : nc ≤ room_1.cells ∧ ns ≤ room_1.slots) (hX : va_X b L xs s s.heap) (hbl : b < s.heap.size) (hbA : ¬ A b) (hi : i + 4 ≤ L) (hL : L ≤ 2048) (h : Rel σ τ) (next : ∀ σ2 τ2 : zz_St, Rel σ2 τ2 → zr_G p l e room_1 s m args below meth c Q D A 4 nc ns 1119 [(3, .int (nI i)), (2, .ref (ad2 0)), (1, .ref (ad 0)), (0, .ref b)] [] (wC ad cy τ2 ++ wM ad2 cy2 σ2)) : zr_G p l e room_1 s m args below meth c Q D A 4 nc ns 253 [(3, .int (nI i)), (2, .ref (ad2 0)), (1, .ref (ad 0)), (0, .ref b)] [] (wC ad cy τ ++ wM ad2 cy2 σ) := by
  refine zr_aload_n K 2 dL_law_253 rfl rfl ?_
  refine zr_aload_n K 3 dL_law_254 rfl rfl ?_
  refine zr_iload_n K 0 dL_law_255 rfl rfl ?_
  refine zr_iconst K dL_law_256 (by decide : _ = (1 : Int32)) ?_
  refine zr_iadd K dL_law_257 ?_
  refine zr_sld K hX hbl hbA (lw_in (k := 1) (by decide) hi hL) dL_law_258 ?_
  refine zr_aload_n K 3 dL_law_259 rfl rfl ?_
  refine zr_iload_n K 0 dL_law_260 rfl rfl ?_
  refine zr_iconst K dL_law_261 (by decide : _ = (2 : Int32)) ?_
  refine zr_iadd K dL_law_262 ?_
  refine zr_sld K hX hbl hbA (lw_in (k := 2) (by decide) hi hL) dL_law_263 ?_
  refine zl_Ci K hNw [.int (xs (nI i + 1).toNatClampNeg), .int (xs (nI i + 2).toNatClampNeg)] (zc7_of l D ad cy (xs (nI i + 1).toNatClampNeg) (xs (nI i + 2).toNatClampNeg) τ _ (R_of h (xs (nI i + 1).toNatClampNeg) (xs (nI i + 2).toNatClampNeg))) gL_law_X7_of rfl ⟨rfl, rfl⟩ zdsL_yX7_of_v ⟨(Nat.le_of_ble_eq_true rfl), (Nat.le_of_ble_eq_true rfl)⟩ hcnt rfl rfl (Nat.le_of_ble_eq_true rfl) dL_law_264 (fun r τ2 hq => ?_)
  refine zr_aload_n K 1 dL_law_267 rfl rfl ?_
  refine zr_aload_n K 3 dL_law_268 rfl rfl ?_
  refine zr_iload_n K 0 dL_law_269 rfl rfl ?_
  refine zr_iconst K dL_law_270 (by decide : _ = (1 : Int32)) ?_
  refine zr_iadd K dL_law_271 ?_
  refine zr_sld K hX hbl hbA (lw_in (k := 1) (by decide) hi hL) dL_law_272 ?_
  refine zr_aload_n K 3 dL_law_273 rfl rfl ?_
  refine zr_iload_n K 0 dL_law_274 rfl rfl ?_
  refine zr_iconst K dL_law_275 (by decide : _ = (2 : Int32)) ?_
  refine zr_iadd K dL_law_276 ?_
  refine zr_sld K hX hbl hbA (lw_in (k := 2) (by decide) hi hL) dL_law_277 ?_
  refine zl_Mi K [.int (xs (nI i + 1).toNatClampNeg), .int (xs (nI i + 2).toNatClampNeg)] (zc8_of l D ad2 cy2 (xs (nI i + 1).toNatClampNeg) (xs (nI i + 2).toNatClampNeg) σ _ hq) gL_law_X8_of rfl ⟨rfl, rfl⟩ zdsL_yX8_of_v ⟨(Nat.le_of_ble_eq_true rfl), (Nat.le_of_ble_eq_true rfl)⟩ hcnt rfl rfl (Nat.le_of_ble_eq_true rfl) dL_law_278 (fun r2 σ2 hq2 => ?_)
  obtain ⟨hab, hrel⟩ := hq2
  exact zr_icmp_eq K 1119 dL_law_281 rfl (fun _ => next _ _ hrel) (fun h9 => absurd hab h9)
set_option maxHeartbeats 4000000 in
set_option maxRecDepth 100000 in
theorem law_4 {p : Program} {l : Launch} {e : Env} {s : State} {m : MethodId} {args : Array Value} {below : List Frame} {meth : Method} {c : Code} {Q : State → Prop} {D : va_G} {A : Nat → Prop} {ad ad2 : Nat → Nat} {cy cy2 : Nat → ClassId} {σ τ : zz_St} {b L i nc ns : Nat} {xs : Nat → Int32} (K : zr_K p s m args c cL_law 4 RL wsL_law D (tysC cy ++ tysM cy2) A) (hNw : ∀ w ∈ nwC, va_Nw w s) (hcnt : nc ≤ room_1.cells ∧ ns ≤ room_1.slots) (hX : va_X b L xs s s.heap) (hbl : b < s.heap.size) (hbA : ¬ A b) (hi : i + 4 ≤ L) (hL : L ≤ 2048) (h : Rel σ τ) (next : ∀ σ2 τ2 : zz_St, Rel σ2 τ2 → zr_G p l e room_1 s m args below meth c Q D A 4 nc ns 1119 [(3, .int (nI i)), (2, .ref (ad2 0)), (1, .ref (ad 0)), (0, .ref b)] [] (wC ad cy τ2 ++ wM ad2 cy2 σ2)) : zr_G p l e room_1 s m args below meth c Q D A 4 nc ns 286 [(3, .int (nI i)), (2, .ref (ad2 0)), (1, .ref (ad 0)), (0, .ref b)] [] (wC ad cy τ ++ wM ad2 cy2 σ) := by
  refine zr_aload_n K 2 dL_law_286 rfl rfl ?_
  refine zr_aload_n K 3 dL_law_287 rfl rfl ?_
  refine zr_iload_n K 0 dL_law_288 rfl rfl ?_
  refine zr_iconst K dL_law_289 (by decide : _ = (1 : Int32)) ?_
  refine zr_iadd K dL_law_290 ?_
  refine zr_sld K hX hbl hbA (lw_in (k := 1) (by decide) hi hL) dL_law_291 ?_
  refine zr_aload_n K 3 dL_law_292 rfl rfl ?_
  refine zr_iload_n K 0 dL_law_293 rfl rfl ?_
  refine zr_iconst K dL_law_294 (by decide : _ = (2 : Int32)) ?_
  refine zr_iadd K dL_law_295 ?_
  refine zr_sld K hX hbl hbA (lw_in (k := 2) (by decide) hi hL) dL_law_296 ?_
  refine zl_Ci K hNw [.int (xs (nI i + 1).toNatClampNeg), .int (xs (nI i + 2).toNatClampNeg)] (zc7_places l D ad cy (xs (nI i + 1).toNatClampNeg) (xs (nI i + 2).toNatClampNeg) τ _ (R_places h (xs (nI i + 1).toNatClampNeg) (xs (nI i + 2).toNatClampNeg))) gL_law_X7_places rfl ⟨rfl, rfl⟩ zdsL_yX7_places_v ⟨(Nat.le_of_ble_eq_true rfl), (Nat.le_of_ble_eq_true rfl)⟩ hcnt rfl rfl (Nat.le_of_ble_eq_true rfl) dL_law_297 (fun r τ2 hq => ?_)
  refine zr_aload_n K 1 dL_law_300 rfl rfl ?_
  refine zr_aload_n K 3 dL_law_301 rfl rfl ?_
  refine zr_iload_n K 0 dL_law_302 rfl rfl ?_
  refine zr_iconst K dL_law_303 (by decide : _ = (1 : Int32)) ?_
  refine zr_iadd K dL_law_304 ?_
  refine zr_sld K hX hbl hbA (lw_in (k := 1) (by decide) hi hL) dL_law_305 ?_
  refine zr_aload_n K 3 dL_law_306 rfl rfl ?_
  refine zr_iload_n K 0 dL_law_307 rfl rfl ?_
  refine zr_iconst K dL_law_308 (by decide : _ = (2 : Int32)) ?_
  refine zr_iadd K dL_law_309 ?_
  refine zr_sld K hX hbl hbA (lw_in (k := 2) (by decide) hi hL) dL_law_310 ?_
  refine zl_Mi K [.int (xs (nI i + 1).toNatClampNeg), .int (xs (nI i + 2).toNatClampNeg)] (zc8_places l D ad2 cy2 (xs (nI i + 1).toNatClampNeg) (xs (nI i + 2).toNatClampNeg) σ _ hq) gL_law_X8_places rfl ⟨rfl, rfl⟩ zdsL_yX8_places_v ⟨(Nat.le_of_ble_eq_true rfl), (Nat.le_of_ble_eq_true rfl)⟩ hcnt rfl rfl (Nat.le_of_ble_eq_true rfl) dL_law_311 (fun r2 σ2 hq2 => ?_)
  obtain ⟨hab, hrel⟩ := hq2
  exact zr_icmp_eq K 1119 dL_law_314 rfl (fun _ => next _ _ hrel) (fun h9 => absurd hab h9)
set_option maxHeartbeats 4000000 in
set_option maxRecDepth 100000 in
theorem law_5 {p : Program} {l : Launch} {e : Env} {s : State} {m : MethodId} {args : Array Value} {below : List Frame} {meth : Method} {c : Code} {Q : State → Prop} {D : va_G} {A : Nat → Prop} {ad ad2 : Nat → Nat} {cy cy2 : Nat → ClassId} {σ τ : zz_St} {b L i nc ns : Nat} {xs : Nat → Int32} (K : zr_K p s m args c cL_law 4 RL wsL_law D (tysC cy ++ tysM cy2) A) (hNw : ∀ w ∈ nwC, va_Nw w s) (hcnt : nc ≤ room_1.cells ∧ ns ≤ room_1.slots) (hX : va_X b L xs s s.heap) (hbl : b < s.heap.size) (hbA : ¬ A b) (hi : i + 4 ≤ L) (hL : L ≤ 2048) (h : Rel σ τ) (next : ∀ σ2 τ2 : zz_St, Rel σ2 τ2 → zr_G p l e room_1 s m args below meth c Q D A 4 nc ns 1119 [(3, .int (nI i)), (2, .ref (ad2 0)), (1, .ref (ad 0)), (0, .ref b)] [] (wC ad cy τ2 ++ wM ad2 cy2 σ2)) : zr_G p l e room_1 s m args below meth c Q D A 4 nc ns 319 [(3, .int (nI i)), (2, .ref (ad2 0)), (1, .ref (ad 0)), (0, .ref b)] [] (wC ad cy τ ++ wM ad2 cy2 σ) := by
  refine zr_aload_n K 2 dL_law_319 rfl rfl ?_
  refine zr_aload_n K 3 dL_law_320 rfl rfl ?_
  refine zr_iload_n K 0 dL_law_321 rfl rfl ?_
  refine zr_iconst K dL_law_322 (by decide : _ = (1 : Int32)) ?_
  refine zr_iadd K dL_law_323 ?_
  refine zr_sld K hX hbl hbA (lw_in (k := 1) (by decide) hi hL) dL_law_324 ?_
  refine zl_Ci K hNw [.int (xs (nI i + 1).toNatClampNeg)] (zc7_ink l D ad cy (xs (nI i + 1).toNatClampNeg) τ _ (R_ink h (xs (nI i + 1).toNatClampNeg))) gL_law_X7_ink rfl ⟨rfl, rfl⟩ zdsL_yX7_ink_v ⟨(Nat.le_of_ble_eq_true rfl), (Nat.le_of_ble_eq_true rfl)⟩ hcnt rfl rfl (Nat.le_of_ble_eq_true rfl) dL_law_325 (fun r τ2 hq => ?_)
  refine zr_aload_n K 1 dL_law_328 rfl rfl ?_
  refine zr_aload_n K 3 dL_law_329 rfl rfl ?_
  refine zr_iload_n K 0 dL_law_330 rfl rfl ?_
  refine zr_iconst K dL_law_331 (by decide : _ = (1 : Int32)) ?_
  refine zr_iadd K dL_law_332 ?_
  refine zr_sld K hX hbl hbA (lw_in (k := 1) (by decide) hi hL) dL_law_333 ?_
  refine zl_Mi K [.int (xs (nI i + 1).toNatClampNeg)] (zc8_ink l D ad2 cy2 (xs (nI i + 1).toNatClampNeg) σ _ hq) gL_law_X8_ink rfl ⟨rfl, rfl⟩ zdsL_yX8_ink_v ⟨(Nat.le_of_ble_eq_true rfl), (Nat.le_of_ble_eq_true rfl)⟩ hcnt rfl rfl (Nat.le_of_ble_eq_true rfl) dL_law_334 (fun r2 σ2 hq2 => ?_)
  obtain ⟨hab, hrel⟩ := hq2
  exact zr_icmp_eq K 1119 dL_law_337 rfl (fun _ => next _ _ hrel) (fun h9 => absurd hab h9)
set_option maxHeartbeats 4000000 in
set_option maxRecDepth 100000 in
theorem law_6 {p : Program} {l : Launch} {e : Env} {s : State} {m : MethodId} {args : Array Value} {below : List Frame} {meth : Method} {c : Code} {Q : State → Prop} {D : va_G} {A : Nat → Prop} {ad ad2 : Nat → Nat} {cy cy2 : Nat → ClassId} {σ τ : zz_St} {b L i nc ns : Nat} {xs : Nat → Int32} (K : zr_K p s m args c cL_law 4 RL wsL_law D (tysC cy ++ tysM cy2) A) (hNw : ∀ w ∈ nwC, va_Nw w s) (hcnt : nc ≤ room_1.cells ∧ ns ≤ room_1.slots) (hX : va_X b L xs s s.heap) (hbl : b < s.heap.size) (hbA : ¬ A b) (hi : i + 4 ≤ L) (hL : L ≤ 2048) (h : Rel σ τ) (next : ∀ σ2 τ2 : zz_St, Rel σ2 τ2 → zr_G p l e room_1 s m args below meth c Q D A 4 nc ns 1119 [(3, .int (nI i)), (2, .ref (ad2 0)), (1, .ref (ad 0)), (0, .ref b)] [] (wC ad cy τ2 ++ wM ad2 cy2 σ2)) : zr_G p l e room_1 s m args below meth c Q D A 4 nc ns 342 [(3, .int (nI i)), (2, .ref (ad2 0)), (1, .ref (ad 0)), (0, .ref b)] [] (wC ad cy τ ++ wM ad2 cy2 σ) := by
  refine zr_aload_n K 2 dL_law_342 rfl rfl ?_
  refine zl_Ci K hNw [] (zc7_wipes l D ad cy  τ _ (R_wipes h )) gL_law_X7_wipes rfl ⟨rfl, rfl⟩ zdsL_yX7_wipes_v ⟨(Nat.le_of_ble_eq_true rfl), (Nat.le_of_ble_eq_true rfl)⟩ hcnt rfl rfl (Nat.le_of_ble_eq_true rfl) dL_law_343 (fun r τ2 hq => ?_)
  refine zr_aload_n K 1 dL_law_346 rfl rfl ?_
  refine zl_Mi K [] (zc8_wipes l D ad2 cy2  σ _ hq) gL_law_X8_wipes rfl ⟨rfl, rfl⟩ zdsL_yX8_wipes_v ⟨(Nat.le_of_ble_eq_true rfl), (Nat.le_of_ble_eq_true rfl)⟩ hcnt rfl rfl (Nat.le_of_ble_eq_true rfl) dL_law_347 (fun r2 σ2 hq2 => ?_)
  obtain ⟨hab, hrel⟩ := hq2
  exact zr_icmp_eq K 1119 dL_law_350 rfl (fun _ => next _ _ hrel) (fun h9 => absurd hab h9)
set_option maxHeartbeats 4000000 in
set_option maxRecDepth 100000 in
theorem law_7 {p : Program} {l : Launch} {e : Env} {s : State} {m : MethodId} {args : Array Value} {below : List Frame} {meth : Method} {c : Code} {Q : State → Prop} {D : va_G} {A : Nat → Prop} {ad ad2 : Nat → Nat} {cy cy2 : Nat → ClassId} {σ τ : zz_St} {b L i nc ns : Nat} {xs : Nat → Int32} (K : zr_K p s m args c cL_law 4 RL wsL_law D (tysC cy ++ tysM cy2) A) (hNw : ∀ w ∈ nwC, va_Nw w s) (hcnt : nc ≤ room_1.cells ∧ ns ≤ room_1.slots) (hX : va_X b L xs s s.heap) (hbl : b < s.heap.size) (hbA : ¬ A b) (hi : i + 4 ≤ L) (hL : L ≤ 2048) (h : Rel σ τ) (next : ∀ σ2 τ2 : zz_St, Rel σ2 τ2 → zr_G p l e room_1 s m args below meth c Q D A 4 nc ns 1119 [(3, .int (nI i)), (2, .ref (ad2 0)), (1, .ref (ad 0)), (0, .ref b)] [] (wC ad cy τ2 ++ wM ad2 cy2 σ2)) : zr_G p l e room_1 s m args below meth c Q D A 4 nc ns 355 [(3, .int (nI i)), (2, .ref (ad2 0)), (1, .ref (ad 0)), (0, .ref b)] [] (wC ad cy τ ++ wM ad2 cy2 σ) := by
  refine zr_aload_n K 2 dL_law_355 rfl rfl ?_
  refine zr_aload_n K 3 dL_law_356 rfl rfl ?_
  refine zr_iload_n K 0 dL_law_357 rfl rfl ?_
  refine zr_iconst K dL_law_358 (by decide : _ = (1 : Int32)) ?_
  refine zr_iadd K dL_law_359 ?_
  refine zr_sld K hX hbl hbA (lw_in (k := 1) (by decide) hi hL) dL_law_360 ?_
  refine zl_Ci K hNw [.int (xs (nI i + 1).toNatClampNeg)] (zc7_solid l D ad cy (xs (nI i + 1).toNatClampNeg) τ _ (R_solid h (xs (nI i + 1).toNatClampNeg))) gL_law_X7_solid rfl ⟨rfl, rfl⟩ zdsL_yX7_solid_v ⟨(Nat.le_of_ble_eq_true rfl), (Nat.le_of_ble_eq_true rfl)⟩ hcnt rfl rfl (Nat.le_of_ble_eq_true rfl) dL_law_361 (fun r τ2 hq => ?_)
  refine zr_aload_n K 1 dL_law_364 rfl rfl ?_
  refine zr_aload_n K 3 dL_law_365 rfl rfl ?_
  refine zr_iload_n K 0 dL_law_366 rfl rfl ?_
  refine zr_iconst K dL_law_367 (by decide : _ = (1 : Int32)) ?_
  refine zr_iadd K dL_law_368 ?_
  refine zr_sld K hX hbl hbA (lw_in (k := 1) (by decide) hi hL) dL_law_369 ?_
  refine zl_Mi K [.int (xs (nI i + 1).toNatClampNeg)] (zc8_solid l D ad2 cy2 (xs (nI i + 1).toNatClampNeg) σ _ hq) gL_law_X8_solid rfl ⟨rfl, rfl⟩ zdsL_yX8_solid_v ⟨(Nat.le_of_ble_eq_true rfl), (Nat.le_of_ble_eq_true rfl)⟩ hcnt rfl rfl (Nat.le_of_ble_eq_true rfl) dL_law_370 (fun r2 σ2 hq2 => ?_)
  obtain ⟨hab, hrel⟩ := hq2
  exact zr_icmp_eq K 1119 dL_law_373 rfl (fun _ => next _ _ hrel) (fun h9 => absurd hab h9)
set_option maxHeartbeats 4000000 in
set_option maxRecDepth 100000 in
theorem law_8 {p : Program} {l : Launch} {e : Env} {s : State} {m : MethodId} {args : Array Value} {below : List Frame} {meth : Method} {c : Code} {Q : State → Prop} {D : va_G} {A : Nat → Prop} {ad ad2 : Nat → Nat} {cy cy2 : Nat → ClassId} {σ τ : zz_St} {b L i nc ns : Nat} {xs : Nat → Int32} (K : zr_K p s m args c cL_law 4 RL wsL_law D (tysC cy ++ tysM cy2) A) (hNw : ∀ w ∈ nwC, va_Nw w s) (hcnt : nc ≤ room_1.cells ∧ ns ≤ room_1.slots) (hX : va_X b L xs s s.heap) (hbl : b < s.heap.size) (hbA : ¬ A b) (hi : i + 4 ≤ L) (hL : L ≤ 2048) (h : Rel σ τ) (next : ∀ σ2 τ2 : zz_St, Rel σ2 τ2 → zr_G p l e room_1 s m args below meth c Q D A 4 nc ns 1119 [(3, .int (nI i)), (2, .ref (ad2 0)), (1, .ref (ad 0)), (0, .ref b)] [] (wC ad cy τ2 ++ wM ad2 cy2 σ2)) : zr_G p l e room_1 s m args below meth c Q D A 4 nc ns 378 [(3, .int (nI i)), (2, .ref (ad2 0)), (1, .ref (ad 0)), (0, .ref b)] [] (wC ad cy τ ++ wM ad2 cy2 σ) := by
  refine zr_aload_n K 2 dL_law_378 rfl rfl ?_
  refine zr_aload_n K 3 dL_law_379 rfl rfl ?_
  refine zr_iload_n K 0 dL_law_380 rfl rfl ?_
  refine zr_iconst K dL_law_381 (by decide : _ = (1 : Int32)) ?_
  refine zr_iadd K dL_law_382 ?_
  refine zr_sld K hX hbl hbA (lw_in (k := 1) (by decide) hi hL) dL_law_383 ?_
  refine zl_Ci K hNw [.int (xs (nI i + 1).toNatClampNeg)] (zc7_roll l D ad cy (xs (nI i + 1).toNatClampNeg) τ _ (R_roll h (xs (nI i + 1).toNatClampNeg))) gL_law_X7_roll rfl ⟨rfl, rfl⟩ zdsL_yX7_roll_v ⟨(Nat.le_of_ble_eq_true rfl), (Nat.le_of_ble_eq_true rfl)⟩ hcnt rfl rfl (Nat.le_of_ble_eq_true rfl) dL_law_384 (fun r τ2 hq => ?_)
  refine zr_aload_n K 1 dL_law_387 rfl rfl ?_
  refine zr_aload_n K 3 dL_law_388 rfl rfl ?_
  refine zr_iload_n K 0 dL_law_389 rfl rfl ?_
  refine zr_iconst K dL_law_390 (by decide : _ = (1 : Int32)) ?_
  refine zr_iadd K dL_law_391 ?_
  refine zr_sld K hX hbl hbA (lw_in (k := 1) (by decide) hi hL) dL_law_392 ?_
  refine zl_Mi K [.int (xs (nI i + 1).toNatClampNeg)] (zc8_roll l D ad2 cy2 (xs (nI i + 1).toNatClampNeg) σ _ hq) gL_law_X8_roll rfl ⟨rfl, rfl⟩ zdsL_yX8_roll_v ⟨(Nat.le_of_ble_eq_true rfl), (Nat.le_of_ble_eq_true rfl)⟩ hcnt rfl rfl (Nat.le_of_ble_eq_true rfl) dL_law_393 (fun r2 σ2 hq2 => ?_)
  obtain ⟨hab, hrel⟩ := hq2
  exact zr_icmp_eq K 1119 dL_law_396 rfl (fun _ => next _ _ hrel) (fun h9 => absurd hab h9)
set_option maxHeartbeats 4000000 in
set_option maxRecDepth 100000 in
theorem law_9 {p : Program} {l : Launch} {e : Env} {s : State} {m : MethodId} {args : Array Value} {below : List Frame} {meth : Method} {c : Code} {Q : State → Prop} {D : va_G} {A : Nat → Prop} {ad ad2 : Nat → Nat} {cy cy2 : Nat → ClassId} {σ τ : zz_St} {b L i nc ns : Nat} {xs : Nat → Int32} (K : zr_K p s m args c cL_law 4 RL wsL_law D (tysC cy ++ tysM cy2) A) (hNw : ∀ w ∈ nwC, va_Nw w s) (hcnt : nc ≤ room_1.cells ∧ ns ≤ room_1.slots) (hX : va_X b L xs s s.heap) (hbl : b < s.heap.size) (hbA : ¬ A b) (hi : i + 4 ≤ L) (hL : L ≤ 2048) (h : Rel σ τ) (next : ∀ σ2 τ2 : zz_St, Rel σ2 τ2 → zr_G p l e room_1 s m args below meth c Q D A 4 nc ns 1119 [(3, .int (nI i)), (2, .ref (ad2 0)), (1, .ref (ad 0)), (0, .ref b)] [] (wC ad cy τ2 ++ wM ad2 cy2 σ2)) : zr_G p l e room_1 s m args below meth c Q D A 4 nc ns 401 [(3, .int (nI i)), (2, .ref (ad2 0)), (1, .ref (ad 0)), (0, .ref b)] [] (wC ad cy τ ++ wM ad2 cy2 σ) := by
  refine zr_aload_n K 2 dL_law_401 rfl rfl ?_
  refine zl_Ci K hNw [] (zc7_ways l D ad cy  τ _ (R_ways h )) gL_law_X7_ways rfl ⟨rfl, rfl⟩ zdsL_yX7_ways_v ⟨(Nat.le_of_ble_eq_true rfl), (Nat.le_of_ble_eq_true rfl)⟩ hcnt rfl rfl (Nat.le_of_ble_eq_true rfl) dL_law_402 (fun r τ2 hq => ?_)
  refine zr_aload_n K 1 dL_law_405 rfl rfl ?_
  refine zl_Mi K [] (zc8_ways l D ad2 cy2  σ _ hq) gL_law_X8_ways rfl ⟨rfl, rfl⟩ zdsL_yX8_ways_v ⟨(Nat.le_of_ble_eq_true rfl), (Nat.le_of_ble_eq_true rfl)⟩ hcnt rfl rfl (Nat.le_of_ble_eq_true rfl) dL_law_406 (fun r2 σ2 hq2 => ?_)
  obtain ⟨hab, hrel⟩ := hq2
  exact zr_icmp_eq K 1119 dL_law_409 rfl (fun _ => next _ _ hrel) (fun h9 => absurd hab h9)
set_option maxHeartbeats 4000000 in
set_option maxRecDepth 100000 in
theorem law_10 {p : Program} {l : Launch} {e : Env} {s : State} {m : MethodId} {args : Array Value} {below : List Frame} {meth : Method} {c : Code} {Q : State → Prop} {D : va_G} {A : Nat → Prop} {ad ad2 : Nat → Nat} {cy cy2 : Nat → ClassId} {σ τ : zz_St} {b L i nc ns : Nat} {xs : Nat → Int32} (K : zr_K p s m args c cL_law 4 RL wsL_law D (tysC cy ++ tysM cy2) A) (hNw : ∀ w ∈ nwC, va_Nw w s) (hcnt : nc ≤ room_1.cells ∧ ns ≤ room_1.slots) (hX : va_X b L xs s s.heap) (hbl : b < s.heap.size) (hbA : ¬ A b) (hi : i + 4 ≤ L) (hL : L ≤ 2048) (h : Rel σ τ) (next : ∀ σ2 τ2 : zz_St, Rel σ2 τ2 → zr_G p l e room_1 s m args below meth c Q D A 4 nc ns 1119 [(3, .int (nI i)), (2, .ref (ad2 0)), (1, .ref (ad 0)), (0, .ref b)] [] (wC ad cy τ2 ++ wM ad2 cy2 σ2)) : zr_G p l e room_1 s m args below meth c Q D A 4 nc ns 414 [(3, .int (nI i)), (2, .ref (ad2 0)), (1, .ref (ad 0)), (0, .ref b)] [] (wC ad cy τ ++ wM ad2 cy2 σ) := by
  refine zr_aload_n K 2 dL_law_414 rfl rfl ?_
  refine zl_Ci K hNw [] (zc7_walks l D ad cy  τ _ (R_walks h )) gL_law_X7_walks rfl ⟨rfl, rfl⟩ zdsL_yX7_walks_v ⟨(Nat.le_of_ble_eq_true rfl), (Nat.le_of_ble_eq_true rfl)⟩ hcnt rfl rfl (Nat.le_of_ble_eq_true rfl) dL_law_415 (fun r τ2 hq => ?_)
  refine zr_aload_n K 1 dL_law_418 rfl rfl ?_
  refine zl_Mi K [] (zc8_walks l D ad2 cy2  σ _ hq) gL_law_X8_walks rfl ⟨rfl, rfl⟩ zdsL_yX8_walks_v ⟨(Nat.le_of_ble_eq_true rfl), (Nat.le_of_ble_eq_true rfl)⟩ hcnt rfl rfl (Nat.le_of_ble_eq_true rfl) dL_law_419 (fun r2 σ2 hq2 => ?_)
  obtain ⟨hab, hrel⟩ := hq2
  exact zr_icmp_eq K 1119 dL_law_422 rfl (fun _ => next _ _ hrel) (fun h9 => absurd hab h9)
set_option maxHeartbeats 4000000 in
set_option maxRecDepth 100000 in
theorem law_11 {p : Program} {l : Launch} {e : Env} {s : State} {m : MethodId} {args : Array Value} {below : List Frame} {meth : Method} {c : Code} {Q : State → Prop} {D : va_G} {A : Nat → Prop} {ad ad2 : Nat → Nat} {cy cy2 : Nat → ClassId} {σ τ : zz_St} {b L i nc ns : Nat} {xs : Nat → Int32} (K : zr_K p s m args c cL_law 4 RL wsL_law D (tysC cy ++ tysM cy2) A) (hNw : ∀ w ∈ nwC, va_Nw w s) (hcnt : nc ≤ room_1.cells ∧ ns ≤ room_1.slots) (hX : va_X b L xs s s.heap) (hbl : b < s.heap.size) (hbA : ¬ A b) (hi : i + 4 ≤ L) (hL : L ≤ 2048) (h : Rel σ τ) (next : ∀ σ2 τ2 : zz_St, Rel σ2 τ2 → zr_G p l e room_1 s m args below meth c Q D A 4 nc ns 1119 [(3, .int (nI i)), (2, .ref (ad2 0)), (1, .ref (ad 0)), (0, .ref b)] [] (wC ad cy τ2 ++ wM ad2 cy2 σ2)) : zr_G p l e room_1 s m args below meth c Q D A 4 nc ns 427 [(3, .int (nI i)), (2, .ref (ad2 0)), (1, .ref (ad 0)), (0, .ref b)] [] (wC ad cy τ ++ wM ad2 cy2 σ) := by
  refine zr_aload_n K 2 dL_law_427 rfl rfl ?_
  refine zl_Ci K hNw [] (zc7_judge l D ad cy  τ _ (R_judge h )) gL_law_X7_judge rfl ⟨rfl, rfl⟩ zdsL_yX7_judge_v ⟨(Nat.le_of_ble_eq_true rfl), (Nat.le_of_ble_eq_true rfl)⟩ hcnt rfl rfl (Nat.le_of_ble_eq_true rfl) dL_law_428 (fun r τ2 hq => ?_)
  refine zr_aload_n K 1 dL_law_431 rfl rfl ?_
  refine zl_Mi K [] (zc8_judge l D ad2 cy2  σ _ hq) gL_law_X8_judge rfl ⟨rfl, rfl⟩ zdsL_yX8_judge_v ⟨(Nat.le_of_ble_eq_true rfl), (Nat.le_of_ble_eq_true rfl)⟩ hcnt rfl rfl (Nat.le_of_ble_eq_true rfl) dL_law_432 (fun r2 σ2 hq2 => ?_)
  obtain ⟨hab, hrel⟩ := hq2
  exact zr_icmp_eq K 1119 dL_law_435 rfl (fun _ => next _ _ hrel) (fun h9 => absurd hab h9)
set_option maxHeartbeats 4000000 in
set_option maxRecDepth 100000 in
theorem law_12 {p : Program} {l : Launch} {e : Env} {s : State} {m : MethodId} {args : Array Value} {below : List Frame} {meth : Method} {c : Code} {Q : State → Prop} {D : va_G} {A : Nat → Prop} {ad ad2 : Nat → Nat} {cy cy2 : Nat → ClassId} {σ τ : zz_St} {b L i nc ns : Nat} {xs : Nat → Int32} (K : zr_K p s m args c cL_law 4 RL wsL_law D (tysC cy ++ tysM cy2) A) (hNw : ∀ w ∈ nwC, va_Nw w s) (hcnt : nc ≤ room_1.cells ∧ ns ≤ room_1.slots) (hX : va_X b L xs s s.heap) (hbl : b < s.heap.size) (hbA : ¬ A b) (hi : i + 4 ≤ L) (hL : L ≤ 2048) (h : Rel σ τ) (next : ∀ σ2 τ2 : zz_St, Rel σ2 τ2 → zr_G p l e room_1 s m args below meth c Q D A 4 nc ns 1119 [(3, .int (nI i)), (2, .ref (ad2 0)), (1, .ref (ad 0)), (0, .ref b)] [] (wC ad cy τ2 ++ wM ad2 cy2 σ2)) : zr_G p l e room_1 s m args below meth c Q D A 4 nc ns 440 [(3, .int (nI i)), (2, .ref (ad2 0)), (1, .ref (ad 0)), (0, .ref b)] [] (wC ad cy τ ++ wM ad2 cy2 σ) := by
  refine zr_aload_n K 2 dL_law_440 rfl rfl ?_
  refine zl_Ci K hNw [] (zc7_undo l D ad cy  τ _ (R_undo h )) gL_law_X7_undo rfl ⟨rfl, rfl⟩ zdsL_yX7_undo_v ⟨(Nat.le_of_ble_eq_true rfl), (Nat.le_of_ble_eq_true rfl)⟩ hcnt rfl rfl (Nat.le_of_ble_eq_true rfl) dL_law_441 (fun r τ2 hq => ?_)
  refine zr_aload_n K 1 dL_law_444 rfl rfl ?_
  refine zl_Mi K [] (zc8_undo l D ad2 cy2  σ _ hq) gL_law_X8_undo rfl ⟨rfl, rfl⟩ zdsL_yX8_undo_v ⟨(Nat.le_of_ble_eq_true rfl), (Nat.le_of_ble_eq_true rfl)⟩ hcnt rfl rfl (Nat.le_of_ble_eq_true rfl) dL_law_445 (fun r2 σ2 hq2 => ?_)
  obtain ⟨hab, hrel⟩ := hq2
  exact zr_icmp_eq K 1119 dL_law_448 rfl (fun _ => next _ _ hrel) (fun h9 => absurd hab h9)
set_option maxHeartbeats 4000000 in
set_option maxRecDepth 100000 in
theorem law_13 {p : Program} {l : Launch} {e : Env} {s : State} {m : MethodId} {args : Array Value} {below : List Frame} {meth : Method} {c : Code} {Q : State → Prop} {D : va_G} {A : Nat → Prop} {ad ad2 : Nat → Nat} {cy cy2 : Nat → ClassId} {σ τ : zz_St} {b L i nc ns : Nat} {xs : Nat → Int32} (K : zr_K p s m args c cL_law 4 RL wsL_law D (tysC cy ++ tysM cy2) A) (hNw : ∀ w ∈ nwC, va_Nw w s) (hcnt : nc ≤ room_1.cells ∧ ns ≤ room_1.slots) (hX : va_X b L xs s s.heap) (hbl : b < s.heap.size) (hbA : ¬ A b) (hi : i + 4 ≤ L) (hL : L ≤ 2048) (h : Rel σ τ) (next : ∀ σ2 τ2 : zz_St, Rel σ2 τ2 → zr_G p l e room_1 s m args below meth c Q D A 4 nc ns 1119 [(3, .int (nI i)), (2, .ref (ad2 0)), (1, .ref (ad 0)), (0, .ref b)] [] (wC ad cy τ2 ++ wM ad2 cy2 σ2)) : zr_G p l e room_1 s m args below meth c Q D A 4 nc ns 453 [(3, .int (nI i)), (2, .ref (ad2 0)), (1, .ref (ad 0)), (0, .ref b)] [] (wC ad cy τ ++ wM ad2 cy2 σ) := by
  refine zr_aload_n K 2 dL_law_453 rfl rfl ?_
  refine zr_aload_n K 3 dL_law_454 rfl rfl ?_
  refine zr_iload_n K 0 dL_law_455 rfl rfl ?_
  refine zr_iconst K dL_law_456 (by decide : _ = (1 : Int32)) ?_
  refine zr_iadd K dL_law_457 ?_
  refine zr_sld K hX hbl hbA (lw_in (k := 1) (by decide) hi hL) dL_law_458 ?_
  refine zl_Ci K hNw [.int (xs (nI i + 1).toNatClampNeg)] (zc7_reached l D ad cy (xs (nI i + 1).toNatClampNeg) τ _ (R_reached h (xs (nI i + 1).toNatClampNeg))) gL_law_X7_reached rfl ⟨rfl, rfl⟩ zdsL_yX7_reached_v ⟨(Nat.le_of_ble_eq_true rfl), (Nat.le_of_ble_eq_true rfl)⟩ hcnt rfl rfl (Nat.le_of_ble_eq_true rfl) dL_law_459 (fun r τ2 hq => ?_)
  refine zr_aload_n K 1 dL_law_462 rfl rfl ?_
  refine zr_aload_n K 3 dL_law_463 rfl rfl ?_
  refine zr_iload_n K 0 dL_law_464 rfl rfl ?_
  refine zr_iconst K dL_law_465 (by decide : _ = (1 : Int32)) ?_
  refine zr_iadd K dL_law_466 ?_
  refine zr_sld K hX hbl hbA (lw_in (k := 1) (by decide) hi hL) dL_law_467 ?_
  refine zl_Mi K [.int (xs (nI i + 1).toNatClampNeg)] (zc8_reached l D ad2 cy2 (xs (nI i + 1).toNatClampNeg) σ _ hq) gL_law_X8_reached rfl ⟨rfl, rfl⟩ zdsL_yX8_reached_v ⟨(Nat.le_of_ble_eq_true rfl), (Nat.le_of_ble_eq_true rfl)⟩ hcnt rfl rfl (Nat.le_of_ble_eq_true rfl) dL_law_468 (fun r2 σ2 hq2 => ?_)
  obtain ⟨hab, hrel⟩ := hq2
  exact zr_icmp_eq K 1119 dL_law_471 rfl (fun _ => next _ _ hrel) (fun h9 => absurd hab h9)
set_option maxHeartbeats 4000000 in
set_option maxRecDepth 100000 in
theorem law_14 {p : Program} {l : Launch} {e : Env} {s : State} {m : MethodId} {args : Array Value} {below : List Frame} {meth : Method} {c : Code} {Q : State → Prop} {D : va_G} {A : Nat → Prop} {ad ad2 : Nat → Nat} {cy cy2 : Nat → ClassId} {σ τ : zz_St} {b L i nc ns : Nat} {xs : Nat → Int32} (K : zr_K p s m args c cL_law 4 RL wsL_law D (tysC cy ++ tysM cy2) A) (hNw : ∀ w ∈ nwC, va_Nw w s) (hcnt : nc ≤ room_1.cells ∧ ns ≤ room_1.slots) (hX : va_X b L xs s s.heap) (hbl : b < s.heap.size) (hbA : ¬ A b) (hi : i + 4 ≤ L) (hL : L ≤ 2048) (h : Rel σ τ) (next : ∀ σ2 τ2 : zz_St, Rel σ2 τ2 → zr_G p l e room_1 s m args below meth c Q D A 4 nc ns 1119 [(3, .int (nI i)), (2, .ref (ad2 0)), (1, .ref (ad 0)), (0, .ref b)] [] (wC ad cy τ2 ++ wM ad2 cy2 σ2)) : zr_G p l e room_1 s m args below meth c Q D A 4 nc ns 476 [(3, .int (nI i)), (2, .ref (ad2 0)), (1, .ref (ad 0)), (0, .ref b)] [] (wC ad cy τ ++ wM ad2 cy2 σ) := by
  refine zr_aload_n K 2 dL_law_476 rfl rfl ?_
  refine zr_aload_n K 3 dL_law_477 rfl rfl ?_
  refine zr_iload_n K 0 dL_law_478 rfl rfl ?_
  refine zr_iconst K dL_law_479 (by decide : _ = (1 : Int32)) ?_
  refine zr_iadd K dL_law_480 ?_
  refine zr_sld K hX hbl hbA (lw_in (k := 1) (by decide) hi hL) dL_law_481 ?_
  refine zr_aload_n K 3 dL_law_482 rfl rfl ?_
  refine zr_iload_n K 0 dL_law_483 rfl rfl ?_
  refine zr_iconst K dL_law_484 (by decide : _ = (2 : Int32)) ?_
  refine zr_iadd K dL_law_485 ?_
  refine zr_sld K hX hbl hbA (lw_in (k := 2) (by decide) hi hL) dL_law_486 ?_
  refine zl_Ci K hNw [.int (xs (nI i + 1).toNatClampNeg), .int (xs (nI i + 2).toNatClampNeg)] (zc7_soonest l D ad cy (xs (nI i + 1).toNatClampNeg) (xs (nI i + 2).toNatClampNeg) τ _ (R_soonest h (xs (nI i + 1).toNatClampNeg) (xs (nI i + 2).toNatClampNeg))) gL_law_X7_soonest rfl ⟨rfl, rfl⟩ zdsL_yX7_soonest_v ⟨(Nat.le_of_ble_eq_true rfl), (Nat.le_of_ble_eq_true rfl)⟩ hcnt rfl rfl (Nat.le_of_ble_eq_true rfl) dL_law_487 (fun r τ2 hq => ?_)
  refine zr_aload_n K 1 dL_law_490 rfl rfl ?_
  refine zr_aload_n K 3 dL_law_491 rfl rfl ?_
  refine zr_iload_n K 0 dL_law_492 rfl rfl ?_
  refine zr_iconst K dL_law_493 (by decide : _ = (1 : Int32)) ?_
  refine zr_iadd K dL_law_494 ?_
  refine zr_sld K hX hbl hbA (lw_in (k := 1) (by decide) hi hL) dL_law_495 ?_
  refine zr_aload_n K 3 dL_law_496 rfl rfl ?_
  refine zr_iload_n K 0 dL_law_497 rfl rfl ?_
  refine zr_iconst K dL_law_498 (by decide : _ = (2 : Int32)) ?_
  refine zr_iadd K dL_law_499 ?_
  refine zr_sld K hX hbl hbA (lw_in (k := 2) (by decide) hi hL) dL_law_500 ?_
  refine zl_Mi K [.int (xs (nI i + 1).toNatClampNeg), .int (xs (nI i + 2).toNatClampNeg)] (zc8_soonest l D ad2 cy2 (xs (nI i + 1).toNatClampNeg) (xs (nI i + 2).toNatClampNeg) σ _ hq) gL_law_X8_soonest rfl ⟨rfl, rfl⟩ zdsL_yX8_soonest_v ⟨(Nat.le_of_ble_eq_true rfl), (Nat.le_of_ble_eq_true rfl)⟩ hcnt rfl rfl (Nat.le_of_ble_eq_true rfl) dL_law_501 (fun r2 σ2 hq2 => ?_)
  obtain ⟨hab, hrel⟩ := hq2
  exact zr_icmp_eq K 1119 dL_law_504 rfl (fun _ => next _ _ hrel) (fun h9 => absurd hab h9)
set_option maxHeartbeats 4000000 in
set_option maxRecDepth 100000 in
theorem law_15 {p : Program} {l : Launch} {e : Env} {s : State} {m : MethodId} {args : Array Value} {below : List Frame} {meth : Method} {c : Code} {Q : State → Prop} {D : va_G} {A : Nat → Prop} {ad ad2 : Nat → Nat} {cy cy2 : Nat → ClassId} {σ τ : zz_St} {b L i nc ns : Nat} {xs : Nat → Int32} (K : zr_K p s m args c cL_law 4 RL wsL_law D (tysC cy ++ tysM cy2) A) (hNw : ∀ w ∈ nwC, va_Nw w s) (hcnt : nc ≤ room_1.cells ∧ ns ≤ room_1.slots) (hX : va_X b L xs s s.heap) (hbl : b < s.heap.size) (hbA : ¬ A b) (hi : i + 4 ≤ L) (hL : L ≤ 2048) (h : Rel σ τ) (next : ∀ σ2 τ2 : zz_St, Rel σ2 τ2 → zr_G p l e room_1 s m args below meth c Q D A 4 nc ns 1119 [(3, .int (nI i)), (2, .ref (ad2 0)), (1, .ref (ad 0)), (0, .ref b)] [] (wC ad cy τ2 ++ wM ad2 cy2 σ2)) : zr_G p l e room_1 s m args below meth c Q D A 4 nc ns 509 [(3, .int (nI i)), (2, .ref (ad2 0)), (1, .ref (ad 0)), (0, .ref b)] [] (wC ad cy τ ++ wM ad2 cy2 σ) := by
  refine zr_aload_n K 2 dL_law_509 rfl rfl ?_
  refine zr_aload_n K 3 dL_law_510 rfl rfl ?_
  refine zr_iload_n K 0 dL_law_511 rfl rfl ?_
  refine zr_iconst K dL_law_512 (by decide : _ = (1 : Int32)) ?_
  refine zr_iadd K dL_law_513 ?_
  refine zr_sld K hX hbl hbA (lw_in (k := 1) (by decide) hi hL) dL_law_514 ?_
  refine zr_aload_n K 3 dL_law_515 rfl rfl ?_
  refine zr_iload_n K 0 dL_law_516 rfl rfl ?_
  refine zr_iconst K dL_law_517 (by decide : _ = (2 : Int32)) ?_
  refine zr_iadd K dL_law_518 ?_
  refine zr_sld K hX hbl hbA (lw_in (k := 2) (by decide) hi hL) dL_law_519 ?_
  refine zr_aload_n K 3 dL_law_520 rfl rfl ?_
  refine zr_iload_n K 0 dL_law_521 rfl rfl ?_
  refine zr_iconst K dL_law_522 (by decide : _ = (3 : Int32)) ?_
  refine zr_iadd K dL_law_523 ?_
  refine zr_sld K hX hbl hbA (lw_in (k := 3) (by decide) hi hL) dL_law_524 ?_
  refine zl_Ci K hNw [.int (xs (nI i + 1).toNatClampNeg), .int (xs (nI i + 2).toNatClampNeg), .int (xs (nI i + 3).toNatClampNeg)] (zc7_walk l D ad cy (xs (nI i + 1).toNatClampNeg) (xs (nI i + 2).toNatClampNeg) (xs (nI i + 3).toNatClampNeg) τ _ (R_walk h (xs (nI i + 1).toNatClampNeg) (xs (nI i + 2).toNatClampNeg) (xs (nI i + 3).toNatClampNeg))) gL_law_X7_walk rfl ⟨rfl, rfl⟩ zdsL_yX7_walk_v ⟨(Nat.le_of_ble_eq_true rfl), (Nat.le_of_ble_eq_true rfl)⟩ hcnt rfl rfl (Nat.le_of_ble_eq_true rfl) dL_law_525 (fun r τ2 hq => ?_)
  refine zr_aload_n K 1 dL_law_528 rfl rfl ?_
  refine zr_aload_n K 3 dL_law_529 rfl rfl ?_
  refine zr_iload_n K 0 dL_law_530 rfl rfl ?_
  refine zr_iconst K dL_law_531 (by decide : _ = (1 : Int32)) ?_
  refine zr_iadd K dL_law_532 ?_
  refine zr_sld K hX hbl hbA (lw_in (k := 1) (by decide) hi hL) dL_law_533 ?_
  refine zr_aload_n K 3 dL_law_534 rfl rfl ?_
  refine zr_iload_n K 0 dL_law_535 rfl rfl ?_
  refine zr_iconst K dL_law_536 (by decide : _ = (2 : Int32)) ?_
  refine zr_iadd K dL_law_537 ?_
  refine zr_sld K hX hbl hbA (lw_in (k := 2) (by decide) hi hL) dL_law_538 ?_
  refine zr_aload_n K 3 dL_law_539 rfl rfl ?_
  refine zr_iload_n K 0 dL_law_540 rfl rfl ?_
  refine zr_iconst K dL_law_541 (by decide : _ = (3 : Int32)) ?_
  refine zr_iadd K dL_law_542 ?_
  refine zr_sld K hX hbl hbA (lw_in (k := 3) (by decide) hi hL) dL_law_543 ?_
  refine zl_Mi K [.int (xs (nI i + 1).toNatClampNeg), .int (xs (nI i + 2).toNatClampNeg), .int (xs (nI i + 3).toNatClampNeg)] (zc8_walk l D ad2 cy2 (xs (nI i + 1).toNatClampNeg) (xs (nI i + 2).toNatClampNeg) (xs (nI i + 3).toNatClampNeg) σ _ hq) gL_law_X8_walk rfl ⟨rfl, rfl⟩ zdsL_yX8_walk_v ⟨(Nat.le_of_ble_eq_true rfl), (Nat.le_of_ble_eq_true rfl)⟩ hcnt rfl rfl (Nat.le_of_ble_eq_true rfl) dL_law_544 (fun r2 σ2 hq2 => ?_)
  obtain ⟨hab, hrel⟩ := hq2
  exact zr_icmp_eq K 1119 dL_law_547 rfl (fun _ => next _ _ hrel) (fun h9 => absurd hab h9)
set_option maxHeartbeats 4000000 in
set_option maxRecDepth 100000 in
theorem law_16 {p : Program} {l : Launch} {e : Env} {s : State} {m : MethodId} {args : Array Value} {below : List Frame} {meth : Method} {c : Code} {Q : State → Prop} {D : va_G} {A : Nat → Prop} {ad ad2 : Nat → Nat} {cy cy2 : Nat → ClassId} {σ τ : zz_St} {b L i nc ns : Nat} {xs : Nat → Int32} (K : zr_K p s m args c cL_law 4 RL wsL_law D (tysC cy ++ tysM cy2) A) (hNw : ∀ w ∈ nwC, va_Nw w s) (hcnt : nc ≤ room_1.cells ∧ ns ≤ room_1.slots) (hX : va_X b L xs s s.heap) (hbl : b < s.heap.size) (hbA : ¬ A b) (hi : i + 4 ≤ L) (hL : L ≤ 2048) (h : Rel σ τ) (next : ∀ σ2 τ2 : zz_St, Rel σ2 τ2 → zr_G p l e room_1 s m args below meth c Q D A 4 nc ns 1119 [(3, .int (nI i)), (2, .ref (ad2 0)), (1, .ref (ad 0)), (0, .ref b)] [] (wC ad cy τ2 ++ wM ad2 cy2 σ2)) : zr_G p l e room_1 s m args below meth c Q D A 4 nc ns 552 [(3, .int (nI i)), (2, .ref (ad2 0)), (1, .ref (ad 0)), (0, .ref b)] [] (wC ad cy τ ++ wM ad2 cy2 σ) := by
  refine zr_aload_n K 2 dL_law_552 rfl rfl ?_
  refine zr_aload_n K 3 dL_law_553 rfl rfl ?_
  refine zr_iload_n K 0 dL_law_554 rfl rfl ?_
  refine zr_iconst K dL_law_555 (by decide : _ = (1 : Int32)) ?_
  refine zr_iadd K dL_law_556 ?_
  refine zr_sld K hX hbl hbA (lw_in (k := 1) (by decide) hi hL) dL_law_557 ?_
  refine zl_Ci K hNw [.int (xs (nI i + 1).toNatClampNeg)] (zc7_faces l D ad cy (xs (nI i + 1).toNatClampNeg) τ _ (R_faces h (xs (nI i + 1).toNatClampNeg))) gL_law_X7_faces rfl ⟨rfl, rfl⟩ zdsL_yX7_faces_v ⟨(Nat.le_of_ble_eq_true rfl), (Nat.le_of_ble_eq_true rfl)⟩ hcnt rfl rfl (Nat.le_of_ble_eq_true rfl) dL_law_558 (fun r τ2 hq => ?_)
  refine zr_aload_n K 1 dL_law_561 rfl rfl ?_
  refine zr_aload_n K 3 dL_law_562 rfl rfl ?_
  refine zr_iload_n K 0 dL_law_563 rfl rfl ?_
  refine zr_iconst K dL_law_564 (by decide : _ = (1 : Int32)) ?_
  refine zr_iadd K dL_law_565 ?_
  refine zr_sld K hX hbl hbA (lw_in (k := 1) (by decide) hi hL) dL_law_566 ?_
  refine zl_Mi K [.int (xs (nI i + 1).toNatClampNeg)] (zc8_faces l D ad2 cy2 (xs (nI i + 1).toNatClampNeg) σ _ hq) gL_law_X8_faces rfl ⟨rfl, rfl⟩ zdsL_yX8_faces_v ⟨(Nat.le_of_ble_eq_true rfl), (Nat.le_of_ble_eq_true rfl)⟩ hcnt rfl rfl (Nat.le_of_ble_eq_true rfl) dL_law_567 (fun r2 σ2 hq2 => ?_)
  obtain ⟨hab, hrel⟩ := hq2
  exact zr_icmp_eq K 1119 dL_law_570 rfl (fun _ => next _ _ hrel) (fun h9 => absurd hab h9)
set_option maxHeartbeats 4000000 in
set_option maxRecDepth 100000 in
theorem law_17 {p : Program} {l : Launch} {e : Env} {s : State} {m : MethodId} {args : Array Value} {below : List Frame} {meth : Method} {c : Code} {Q : State → Prop} {D : va_G} {A : Nat → Prop} {ad ad2 : Nat → Nat} {cy cy2 : Nat → ClassId} {σ τ : zz_St} {b L i nc ns : Nat} {xs : Nat → Int32} (K : zr_K p s m args c cL_law 4 RL wsL_law D (tysC cy ++ tysM cy2) A) (hNw : ∀ w ∈ nwC, va_Nw w s) (hcnt : nc ≤ room_1.cells ∧ ns ≤ room_1.slots) (hX : va_X b L xs s s.heap) (hbl : b < s.heap.size) (hbA : ¬ A b) (hi : i + 4 ≤ L) (hL : L ≤ 2048) (h : Rel σ τ) (next : ∀ σ2 τ2 : zz_St, Rel σ2 τ2 → zr_G p l e room_1 s m args below meth c Q D A 4 nc ns 1119 [(3, .int (nI i)), (2, .ref (ad2 0)), (1, .ref (ad 0)), (0, .ref b)] [] (wC ad cy τ2 ++ wM ad2 cy2 σ2)) : zr_G p l e room_1 s m args below meth c Q D A 4 nc ns 575 [(3, .int (nI i)), (2, .ref (ad2 0)), (1, .ref (ad 0)), (0, .ref b)] [] (wC ad cy τ ++ wM ad2 cy2 σ) := by
  refine zr_aload_n K 2 dL_law_575 rfl rfl ?_
  refine zr_aload_n K 3 dL_law_576 rfl rfl ?_
  refine zr_iload_n K 0 dL_law_577 rfl rfl ?_
  refine zr_iconst K dL_law_578 (by decide : _ = (1 : Int32)) ?_
  refine zr_iadd K dL_law_579 ?_
  refine zr_sld K hX hbl hbA (lw_in (k := 1) (by decide) hi hL) dL_law_580 ?_
  refine zl_Ci K hNw [.int (xs (nI i + 1).toNatClampNeg)] (zc7_fill l D ad cy (xs (nI i + 1).toNatClampNeg) τ _ (R_fill h (xs (nI i + 1).toNatClampNeg))) gL_law_X7_fill rfl ⟨rfl, rfl⟩ zdsL_yX7_fill_v ⟨(Nat.le_of_ble_eq_true rfl), (Nat.le_of_ble_eq_true rfl)⟩ hcnt rfl rfl (Nat.le_of_ble_eq_true rfl) dL_law_581 (fun r τ2 hq => ?_)
  refine zr_aload_n K 1 dL_law_584 rfl rfl ?_
  refine zr_aload_n K 3 dL_law_585 rfl rfl ?_
  refine zr_iload_n K 0 dL_law_586 rfl rfl ?_
  refine zr_iconst K dL_law_587 (by decide : _ = (1 : Int32)) ?_
  refine zr_iadd K dL_law_588 ?_
  refine zr_sld K hX hbl hbA (lw_in (k := 1) (by decide) hi hL) dL_law_589 ?_
  refine zl_Mi K [.int (xs (nI i + 1).toNatClampNeg)] (zc8_fill l D ad2 cy2 (xs (nI i + 1).toNatClampNeg) σ _ hq) gL_law_X8_fill rfl ⟨rfl, rfl⟩ zdsL_yX8_fill_v ⟨(Nat.le_of_ble_eq_true rfl), (Nat.le_of_ble_eq_true rfl)⟩ hcnt rfl rfl (Nat.le_of_ble_eq_true rfl) dL_law_590 (fun r2 σ2 hq2 => ?_)
  obtain ⟨hab, hrel⟩ := hq2
  exact zr_icmp_eq K 1119 dL_law_593 rfl (fun _ => next _ _ hrel) (fun h9 => absurd hab h9)
set_option maxHeartbeats 4000000 in
set_option maxRecDepth 100000 in
theorem law_18 {p : Program} {l : Launch} {e : Env} {s : State} {m : MethodId} {args : Array Value} {below : List Frame} {meth : Method} {c : Code} {Q : State → Prop} {D : va_G} {A : Nat → Prop} {ad ad2 : Nat → Nat} {cy cy2 : Nat → ClassId} {σ τ : zz_St} {b L i nc ns : Nat} {xs : Nat → Int32} (K : zr_K p s m args c cL_law 4 RL wsL_law D (tysC cy ++ tysM cy2) A) (hNw : ∀ w ∈ nwC, va_Nw w s) (hcnt : nc ≤ room_1.cells ∧ ns ≤ room_1.slots) (hX : va_X b L xs s s.heap) (hbl : b < s.heap.size) (hbA : ¬ A b) (hi : i + 4 ≤ L) (hL : L ≤ 2048) (h : Rel σ τ) (next : ∀ σ2 τ2 : zz_St, Rel σ2 τ2 → zr_G p l e room_1 s m args below meth c Q D A 4 nc ns 1119 [(3, .int (nI i)), (2, .ref (ad2 0)), (1, .ref (ad 0)), (0, .ref b)] [] (wC ad cy τ2 ++ wM ad2 cy2 σ2)) : zr_G p l e room_1 s m args below meth c Q D A 4 nc ns 598 [(3, .int (nI i)), (2, .ref (ad2 0)), (1, .ref (ad 0)), (0, .ref b)] [] (wC ad cy τ ++ wM ad2 cy2 σ) := by
  refine zr_aload_n K 2 dL_law_598 rfl rfl ?_
  refine zr_aload_n K 3 dL_law_599 rfl rfl ?_
  refine zr_iload_n K 0 dL_law_600 rfl rfl ?_
  refine zr_iconst K dL_law_601 (by decide : _ = (1 : Int32)) ?_
  refine zr_iadd K dL_law_602 ?_
  refine zr_sld K hX hbl hbA (lw_in (k := 1) (by decide) hi hL) dL_law_603 ?_
  refine zl_Cl K hNw [.int (xs (nI i + 1).toNatClampNeg)] (zc7_needed l D ad cy (xs (nI i + 1).toNatClampNeg) τ _ (R_needed h (xs (nI i + 1).toNatClampNeg))) gL_law_X7_needed rfl ⟨rfl, rfl⟩ zdsL_yX7_needed_v ⟨(Nat.le_of_ble_eq_true rfl), (Nat.le_of_ble_eq_true rfl)⟩ hcnt rfl rfl (Nat.le_of_ble_eq_true rfl) dL_law_604 (fun r τ2 hq => ?_)
  refine zr_aload_n K 1 dL_law_607 rfl rfl ?_
  refine zr_aload_n K 3 dL_law_608 rfl rfl ?_
  refine zr_iload_n K 0 dL_law_609 rfl rfl ?_
  refine zr_iconst K dL_law_610 (by decide : _ = (1 : Int32)) ?_
  refine zr_iadd K dL_law_611 ?_
  refine zr_sld K hX hbl hbA (lw_in (k := 1) (by decide) hi hL) dL_law_612 ?_
  refine zl_Ml K [.int (xs (nI i + 1).toNatClampNeg)] (zc8_needed l D ad2 cy2 (xs (nI i + 1).toNatClampNeg) σ _ hq) gL_law_X8_needed rfl ⟨rfl, rfl⟩ zdsL_yX8_needed_v ⟨(Nat.le_of_ble_eq_true rfl), (Nat.le_of_ble_eq_true rfl)⟩ hcnt rfl rfl (Nat.le_of_ble_eq_true rfl) dL_law_613 (fun r2 σ2 hq2 => ?_)
  obtain ⟨hab, hrel⟩ := hq2
  refine zr_lcmp K dL_law_616 ?_
  exact zr_if_eq K 1119 dL_law_617 rfl (fun _ => next _ _ hrel) (fun h9 => absurd (by rw [hab]; exact (lg_cmp_eq _ _).mpr rfl) h9)
set_option maxHeartbeats 4000000 in
set_option maxRecDepth 100000 in
theorem law_19 {p : Program} {l : Launch} {e : Env} {s : State} {m : MethodId} {args : Array Value} {below : List Frame} {meth : Method} {c : Code} {Q : State → Prop} {D : va_G} {A : Nat → Prop} {ad ad2 : Nat → Nat} {cy cy2 : Nat → ClassId} {σ τ : zz_St} {b L i nc ns : Nat} {xs : Nat → Int32} (K : zr_K p s m args c cL_law 4 RL wsL_law D (tysC cy ++ tysM cy2) A) (hNw : ∀ w ∈ nwC, va_Nw w s) (hcnt : nc ≤ room_1.cells ∧ ns ≤ room_1.slots) (hX : va_X b L xs s s.heap) (hbl : b < s.heap.size) (hbA : ¬ A b) (hi : i + 4 ≤ L) (hL : L ≤ 2048) (h : Rel σ τ) (next : ∀ σ2 τ2 : zz_St, Rel σ2 τ2 → zr_G p l e room_1 s m args below meth c Q D A 4 nc ns 1119 [(3, .int (nI i)), (2, .ref (ad2 0)), (1, .ref (ad 0)), (0, .ref b)] [] (wC ad cy τ2 ++ wM ad2 cy2 σ2)) : zr_G p l e room_1 s m args below meth c Q D A 4 nc ns 622 [(3, .int (nI i)), (2, .ref (ad2 0)), (1, .ref (ad 0)), (0, .ref b)] [] (wC ad cy τ ++ wM ad2 cy2 σ) := by
  refine zr_aload_n K 2 dL_law_622 rfl rfl ?_
  refine zr_aload_n K 3 dL_law_623 rfl rfl ?_
  refine zr_iload_n K 0 dL_law_624 rfl rfl ?_
  refine zr_iconst K dL_law_625 (by decide : _ = (1 : Int32)) ?_
  refine zr_iadd K dL_law_626 ?_
  refine zr_sld K hX hbl hbA (lw_in (k := 1) (by decide) hi hL) dL_law_627 ?_
  refine zr_aload_n K 3 dL_law_628 rfl rfl ?_
  refine zr_iload_n K 0 dL_law_629 rfl rfl ?_
  refine zr_iconst K dL_law_630 (by decide : _ = (2 : Int32)) ?_
  refine zr_iadd K dL_law_631 ?_
  refine zr_sld K hX hbl hbA (lw_in (k := 2) (by decide) hi hL) dL_law_632 ?_
  refine zl_Ci K hNw [.int (xs (nI i + 1).toNatClampNeg), .int (xs (nI i + 2).toNatClampNeg)] (zc7_paint l D ad cy (xs (nI i + 1).toNatClampNeg) (xs (nI i + 2).toNatClampNeg) τ _ (R_paint h (xs (nI i + 1).toNatClampNeg) (xs (nI i + 2).toNatClampNeg))) gL_law_X7_paint rfl ⟨rfl, rfl⟩ zdsL_yX7_paint_v ⟨(Nat.le_of_ble_eq_true rfl), (Nat.le_of_ble_eq_true rfl)⟩ hcnt rfl rfl (Nat.le_of_ble_eq_true rfl) dL_law_633 (fun r τ2 hq => ?_)
  refine zr_aload_n K 1 dL_law_636 rfl rfl ?_
  refine zr_aload_n K 3 dL_law_637 rfl rfl ?_
  refine zr_iload_n K 0 dL_law_638 rfl rfl ?_
  refine zr_iconst K dL_law_639 (by decide : _ = (1 : Int32)) ?_
  refine zr_iadd K dL_law_640 ?_
  refine zr_sld K hX hbl hbA (lw_in (k := 1) (by decide) hi hL) dL_law_641 ?_
  refine zr_aload_n K 3 dL_law_642 rfl rfl ?_
  refine zr_iload_n K 0 dL_law_643 rfl rfl ?_
  refine zr_iconst K dL_law_644 (by decide : _ = (2 : Int32)) ?_
  refine zr_iadd K dL_law_645 ?_
  refine zr_sld K hX hbl hbA (lw_in (k := 2) (by decide) hi hL) dL_law_646 ?_
  refine zl_Mi K [.int (xs (nI i + 1).toNatClampNeg), .int (xs (nI i + 2).toNatClampNeg)] (zc8_paint l D ad2 cy2 (xs (nI i + 1).toNatClampNeg) (xs (nI i + 2).toNatClampNeg) σ _ hq) gL_law_X8_paint rfl ⟨rfl, rfl⟩ zdsL_yX8_paint_v ⟨(Nat.le_of_ble_eq_true rfl), (Nat.le_of_ble_eq_true rfl)⟩ hcnt rfl rfl (Nat.le_of_ble_eq_true rfl) dL_law_647 (fun r2 σ2 hq2 => ?_)
  obtain ⟨hab, hrel⟩ := hq2
  exact zr_icmp_eq K 1119 dL_law_650 rfl (fun _ => next _ _ hrel) (fun h9 => absurd hab h9)
set_option maxHeartbeats 4000000 in
set_option maxRecDepth 100000 in
theorem law_20 {p : Program} {l : Launch} {e : Env} {s : State} {m : MethodId} {args : Array Value} {below : List Frame} {meth : Method} {c : Code} {Q : State → Prop} {D : va_G} {A : Nat → Prop} {ad ad2 : Nat → Nat} {cy cy2 : Nat → ClassId} {σ τ : zz_St} {b L i nc ns : Nat} {xs : Nat → Int32} (K : zr_K p s m args c cL_law 4 RL wsL_law D (tysC cy ++ tysM cy2) A) (hNw : ∀ w ∈ nwC, va_Nw w s) (hcnt : nc ≤ room_1.cells ∧ ns ≤ room_1.slots) (hX : va_X b L xs s s.heap) (hbl : b < s.heap.size) (hbA : ¬ A b) (hi : i + 4 ≤ L) (hL : L ≤ 2048) (h : Rel σ τ) (next : ∀ σ2 τ2 : zz_St, Rel σ2 τ2 → zr_G p l e room_1 s m args below meth c Q D A 4 nc ns 1119 [(3, .int (nI i)), (2, .ref (ad2 0)), (1, .ref (ad 0)), (0, .ref b)] [] (wC ad cy τ2 ++ wM ad2 cy2 σ2)) : zr_G p l e room_1 s m args below meth c Q D A 4 nc ns 655 [(3, .int (nI i)), (2, .ref (ad2 0)), (1, .ref (ad 0)), (0, .ref b)] [] (wC ad cy τ ++ wM ad2 cy2 σ) := by
  refine zr_aload_n K 2 dL_law_655 rfl rfl ?_
  refine zr_aload_n K 3 dL_law_656 rfl rfl ?_
  refine zr_iload_n K 0 dL_law_657 rfl rfl ?_
  refine zr_iconst K dL_law_658 (by decide : _ = (1 : Int32)) ?_
  refine zr_iadd K dL_law_659 ?_
  refine zr_sld K hX hbl hbA (lw_in (k := 1) (by decide) hi hL) dL_law_660 ?_
  refine zr_aload_n K 3 dL_law_661 rfl rfl ?_
  refine zr_iload_n K 0 dL_law_662 rfl rfl ?_
  refine zr_iconst K dL_law_663 (by decide : _ = (2 : Int32)) ?_
  refine zr_iadd K dL_law_664 ?_
  refine zr_sld K hX hbl hbA (lw_in (k := 2) (by decide) hi hL) dL_law_665 ?_
  refine zr_aload_n K 3 dL_law_666 rfl rfl ?_
  refine zr_iload_n K 0 dL_law_667 rfl rfl ?_
  refine zr_iconst K dL_law_668 (by decide : _ = (3 : Int32)) ?_
  refine zr_iadd K dL_law_669 ?_
  refine zr_sld K hX hbl hbA (lw_in (k := 3) (by decide) hi hL) dL_law_670 ?_
  refine zl_Cl K hNw [.int (xs (nI i + 1).toNatClampNeg), .int (xs (nI i + 2).toNatClampNeg), .int (xs (nI i + 3).toNatClampNeg)] (zc7_likely l D ad cy (xs (nI i + 1).toNatClampNeg) (xs (nI i + 2).toNatClampNeg) (xs (nI i + 3).toNatClampNeg) τ _ (R_likely h (xs (nI i + 1).toNatClampNeg) (xs (nI i + 2).toNatClampNeg) (xs (nI i + 3).toNatClampNeg))) gL_law_X7_likely rfl ⟨rfl, rfl⟩ zdsL_yX7_likely_v ⟨(Nat.le_of_ble_eq_true rfl), (Nat.le_of_ble_eq_true rfl)⟩ hcnt rfl rfl (Nat.le_of_ble_eq_true rfl) dL_law_671 (fun r τ2 hq => ?_)
  refine zr_aload_n K 1 dL_law_674 rfl rfl ?_
  refine zr_aload_n K 3 dL_law_675 rfl rfl ?_
  refine zr_iload_n K 0 dL_law_676 rfl rfl ?_
  refine zr_iconst K dL_law_677 (by decide : _ = (1 : Int32)) ?_
  refine zr_iadd K dL_law_678 ?_
  refine zr_sld K hX hbl hbA (lw_in (k := 1) (by decide) hi hL) dL_law_679 ?_
  refine zr_aload_n K 3 dL_law_680 rfl rfl ?_
  refine zr_iload_n K 0 dL_law_681 rfl rfl ?_
  refine zr_iconst K dL_law_682 (by decide : _ = (2 : Int32)) ?_
  refine zr_iadd K dL_law_683 ?_
  refine zr_sld K hX hbl hbA (lw_in (k := 2) (by decide) hi hL) dL_law_684 ?_
  refine zr_aload_n K 3 dL_law_685 rfl rfl ?_
  refine zr_iload_n K 0 dL_law_686 rfl rfl ?_
  refine zr_iconst K dL_law_687 (by decide : _ = (3 : Int32)) ?_
  refine zr_iadd K dL_law_688 ?_
  refine zr_sld K hX hbl hbA (lw_in (k := 3) (by decide) hi hL) dL_law_689 ?_
  refine zl_Ml K [.int (xs (nI i + 1).toNatClampNeg), .int (xs (nI i + 2).toNatClampNeg), .int (xs (nI i + 3).toNatClampNeg)] (zc8_likely l D ad2 cy2 (xs (nI i + 1).toNatClampNeg) (xs (nI i + 2).toNatClampNeg) (xs (nI i + 3).toNatClampNeg) σ _ hq) gL_law_X8_likely rfl ⟨rfl, rfl⟩ zdsL_yX8_likely_v ⟨(Nat.le_of_ble_eq_true rfl), (Nat.le_of_ble_eq_true rfl)⟩ hcnt rfl rfl (Nat.le_of_ble_eq_true rfl) dL_law_690 (fun r2 σ2 hq2 => ?_)
  obtain ⟨hab, hrel⟩ := hq2
  refine zr_lcmp K dL_law_693 ?_
  exact zr_if_eq K 1119 dL_law_694 rfl (fun _ => next _ _ hrel) (fun h9 => absurd (by rw [hab]; exact (lg_cmp_eq _ _).mpr rfl) h9)
set_option maxHeartbeats 4000000 in
set_option maxRecDepth 100000 in
theorem law_21 {p : Program} {l : Launch} {e : Env} {s : State} {m : MethodId} {args : Array Value} {below : List Frame} {meth : Method} {c : Code} {Q : State → Prop} {D : va_G} {A : Nat → Prop} {ad ad2 : Nat → Nat} {cy cy2 : Nat → ClassId} {σ τ : zz_St} {b L i nc ns : Nat} {xs : Nat → Int32} (K : zr_K p s m args c cL_law 4 RL wsL_law D (tysC cy ++ tysM cy2) A) (hNw : ∀ w ∈ nwC, va_Nw w s) (hcnt : nc ≤ room_1.cells ∧ ns ≤ room_1.slots) (hX : va_X b L xs s s.heap) (hbl : b < s.heap.size) (hbA : ¬ A b) (hi : i + 4 ≤ L) (hL : L ≤ 2048) (h : Rel σ τ) (next : ∀ σ2 τ2 : zz_St, Rel σ2 τ2 → zr_G p l e room_1 s m args below meth c Q D A 4 nc ns 1119 [(3, .int (nI i)), (2, .ref (ad2 0)), (1, .ref (ad 0)), (0, .ref b)] [] (wC ad cy τ2 ++ wM ad2 cy2 σ2)) : zr_G p l e room_1 s m args below meth c Q D A 4 nc ns 699 [(3, .int (nI i)), (2, .ref (ad2 0)), (1, .ref (ad 0)), (0, .ref b)] [] (wC ad cy τ ++ wM ad2 cy2 σ) := by
  refine zr_aload_n K 2 dL_law_699 rfl rfl ?_
  refine zr_aload_n K 3 dL_law_700 rfl rfl ?_
  refine zr_iload_n K 0 dL_law_701 rfl rfl ?_
  refine zr_iconst K dL_law_702 (by decide : _ = (1 : Int32)) ?_
  refine zr_iadd K dL_law_703 ?_
  refine zr_sld K hX hbl hbA (lw_in (k := 1) (by decide) hi hL) dL_law_704 ?_
  refine zr_aload_n K 3 dL_law_705 rfl rfl ?_
  refine zr_iload_n K 0 dL_law_706 rfl rfl ?_
  refine zr_iconst K dL_law_707 (by decide : _ = (2 : Int32)) ?_
  refine zr_iadd K dL_law_708 ?_
  refine zr_sld K hX hbl hbA (lw_in (k := 2) (by decide) hi hL) dL_law_709 ?_
  refine zr_aload_n K 3 dL_law_710 rfl rfl ?_
  refine zr_iload_n K 0 dL_law_711 rfl rfl ?_
  refine zr_iconst K dL_law_712 (by decide : _ = (3 : Int32)) ?_
  refine zr_iadd K dL_law_713 ?_
  refine zr_sld K hX hbl hbA (lw_in (k := 3) (by decide) hi hL) dL_law_714 ?_
  refine zl_Ci K hNw [.int (xs (nI i + 1).toNatClampNeg), .int (xs (nI i + 2).toNatClampNeg), .int (xs (nI i + 3).toNatClampNeg)] (zc7_lots l D ad cy (xs (nI i + 1).toNatClampNeg) (xs (nI i + 2).toNatClampNeg) (xs (nI i + 3).toNatClampNeg) τ _ (R_lots h (xs (nI i + 1).toNatClampNeg) (xs (nI i + 2).toNatClampNeg) (xs (nI i + 3).toNatClampNeg))) gL_law_X7_lots rfl ⟨rfl, rfl⟩ zdsL_yX7_lots_v ⟨(Nat.le_of_ble_eq_true rfl), (Nat.le_of_ble_eq_true rfl)⟩ hcnt rfl rfl (Nat.le_of_ble_eq_true rfl) dL_law_715 (fun r τ2 hq => ?_)
  refine zr_aload_n K 1 dL_law_718 rfl rfl ?_
  refine zr_aload_n K 3 dL_law_719 rfl rfl ?_
  refine zr_iload_n K 0 dL_law_720 rfl rfl ?_
  refine zr_iconst K dL_law_721 (by decide : _ = (1 : Int32)) ?_
  refine zr_iadd K dL_law_722 ?_
  refine zr_sld K hX hbl hbA (lw_in (k := 1) (by decide) hi hL) dL_law_723 ?_
  refine zr_aload_n K 3 dL_law_724 rfl rfl ?_
  refine zr_iload_n K 0 dL_law_725 rfl rfl ?_
  refine zr_iconst K dL_law_726 (by decide : _ = (2 : Int32)) ?_
  refine zr_iadd K dL_law_727 ?_
  refine zr_sld K hX hbl hbA (lw_in (k := 2) (by decide) hi hL) dL_law_728 ?_
  refine zr_aload_n K 3 dL_law_729 rfl rfl ?_
  refine zr_iload_n K 0 dL_law_730 rfl rfl ?_
  refine zr_iconst K dL_law_731 (by decide : _ = (3 : Int32)) ?_
  refine zr_iadd K dL_law_732 ?_
  refine zr_sld K hX hbl hbA (lw_in (k := 3) (by decide) hi hL) dL_law_733 ?_
  refine zl_Mi K [.int (xs (nI i + 1).toNatClampNeg), .int (xs (nI i + 2).toNatClampNeg), .int (xs (nI i + 3).toNatClampNeg)] (zc8_lots l D ad2 cy2 (xs (nI i + 1).toNatClampNeg) (xs (nI i + 2).toNatClampNeg) (xs (nI i + 3).toNatClampNeg) σ _ hq) gL_law_X8_lots rfl ⟨rfl, rfl⟩ zdsL_yX8_lots_v ⟨(Nat.le_of_ble_eq_true rfl), (Nat.le_of_ble_eq_true rfl)⟩ hcnt rfl rfl (Nat.le_of_ble_eq_true rfl) dL_law_734 (fun r2 σ2 hq2 => ?_)
  obtain ⟨hab, hrel⟩ := hq2
  exact zr_icmp_eq K 1119 dL_law_737 rfl (fun _ => next _ _ hrel) (fun h9 => absurd hab h9)
set_option maxHeartbeats 4000000 in
set_option maxRecDepth 100000 in
theorem law_22 {p : Program} {l : Launch} {e : Env} {s : State} {m : MethodId} {args : Array Value} {below : List Frame} {meth : Method} {c : Code} {Q : State → Prop} {D : va_G} {A : Nat → Prop} {ad ad2 : Nat → Nat} {cy cy2 : Nat → ClassId} {σ τ : zz_St} {b L i nc ns : Nat} {xs : Nat → Int32} (K : zr_K p s m args c cL_law 4 RL wsL_law D (tysC cy ++ tysM cy2) A) (hNw : ∀ w ∈ nwC, va_Nw w s) (hcnt : nc ≤ room_1.cells ∧ ns ≤ room_1.slots) (hX : va_X b L xs s s.heap) (hbl : b < s.heap.size) (hbA : ¬ A b) (hi : i + 4 ≤ L) (hL : L ≤ 2048) (h : Rel σ τ) (next : ∀ σ2 τ2 : zz_St, Rel σ2 τ2 → zr_G p l e room_1 s m args below meth c Q D A 4 nc ns 1119 [(3, .int (nI i)), (2, .ref (ad2 0)), (1, .ref (ad 0)), (0, .ref b)] [] (wC ad cy τ2 ++ wM ad2 cy2 σ2)) : zr_G p l e room_1 s m args below meth c Q D A 4 nc ns 742 [(3, .int (nI i)), (2, .ref (ad2 0)), (1, .ref (ad 0)), (0, .ref b)] [] (wC ad cy τ ++ wM ad2 cy2 σ) := by
  refine zr_aload_n K 2 dL_law_742 rfl rfl ?_
  refine zr_aload_n K 3 dL_law_743 rfl rfl ?_
  refine zr_iload_n K 0 dL_law_744 rfl rfl ?_
  refine zr_iconst K dL_law_745 (by decide : _ = (1 : Int32)) ?_
  refine zr_iadd K dL_law_746 ?_
  refine zr_sld K hX hbl hbA (lw_in (k := 1) (by decide) hi hL) dL_law_747 ?_
  refine zr_aload_n K 3 dL_law_748 rfl rfl ?_
  refine zr_iload_n K 0 dL_law_749 rfl rfl ?_
  refine zr_iconst K dL_law_750 (by decide : _ = (2 : Int32)) ?_
  refine zr_iadd K dL_law_751 ?_
  refine zr_sld K hX hbl hbA (lw_in (k := 2) (by decide) hi hL) dL_law_752 ?_
  refine zl_Ci K hNw [.int (xs (nI i + 1).toNatClampNeg), .int (xs (nI i + 2).toNatClampNeg)] (zc7_list l D ad cy (xs (nI i + 1).toNatClampNeg) (xs (nI i + 2).toNatClampNeg) τ _ (R_list h (xs (nI i + 1).toNatClampNeg) (xs (nI i + 2).toNatClampNeg))) gL_law_X7_list rfl ⟨rfl, rfl⟩ zdsL_yX7_list_v ⟨(Nat.le_of_ble_eq_true rfl), (Nat.le_of_ble_eq_true rfl)⟩ hcnt rfl rfl (Nat.le_of_ble_eq_true rfl) dL_law_753 (fun r τ2 hq => ?_)
  refine zr_aload_n K 1 dL_law_756 rfl rfl ?_
  refine zr_aload_n K 3 dL_law_757 rfl rfl ?_
  refine zr_iload_n K 0 dL_law_758 rfl rfl ?_
  refine zr_iconst K dL_law_759 (by decide : _ = (1 : Int32)) ?_
  refine zr_iadd K dL_law_760 ?_
  refine zr_sld K hX hbl hbA (lw_in (k := 1) (by decide) hi hL) dL_law_761 ?_
  refine zr_aload_n K 3 dL_law_762 rfl rfl ?_
  refine zr_iload_n K 0 dL_law_763 rfl rfl ?_
  refine zr_iconst K dL_law_764 (by decide : _ = (2 : Int32)) ?_
  refine zr_iadd K dL_law_765 ?_
  refine zr_sld K hX hbl hbA (lw_in (k := 2) (by decide) hi hL) dL_law_766 ?_
  refine zl_Mi K [.int (xs (nI i + 1).toNatClampNeg), .int (xs (nI i + 2).toNatClampNeg)] (zc8_list l D ad2 cy2 (xs (nI i + 1).toNatClampNeg) (xs (nI i + 2).toNatClampNeg) σ _ hq) gL_law_X8_list rfl ⟨rfl, rfl⟩ zdsL_yX8_list_v ⟨(Nat.le_of_ble_eq_true rfl), (Nat.le_of_ble_eq_true rfl)⟩ hcnt rfl rfl (Nat.le_of_ble_eq_true rfl) dL_law_767 (fun r2 σ2 hq2 => ?_)
  obtain ⟨hab, hrel⟩ := hq2
  exact zr_icmp_eq K 1119 dL_law_770 rfl (fun _ => next _ _ hrel) (fun h9 => absurd hab h9)
set_option maxHeartbeats 4000000 in
set_option maxRecDepth 100000 in
theorem law_23 {p : Program} {l : Launch} {e : Env} {s : State} {m : MethodId} {args : Array Value} {below : List Frame} {meth : Method} {c : Code} {Q : State → Prop} {D : va_G} {A : Nat → Prop} {ad ad2 : Nat → Nat} {cy cy2 : Nat → ClassId} {σ τ : zz_St} {b L i nc ns : Nat} {xs : Nat → Int32} (K : zr_K p s m args c cL_law 4 RL wsL_law D (tysC cy ++ tysM cy2) A) (hNw : ∀ w ∈ nwC, va_Nw w s) (hcnt : nc ≤ room_1.cells ∧ ns ≤ room_1.slots) (hX : va_X b L xs s s.heap) (hbl : b < s.heap.size) (hbA : ¬ A b) (hi : i + 4 ≤ L) (hL : L ≤ 2048) (h : Rel σ τ) (next : ∀ σ2 τ2 : zz_St, Rel σ2 τ2 → zr_G p l e room_1 s m args below meth c Q D A 4 nc ns 1119 [(3, .int (nI i)), (2, .ref (ad2 0)), (1, .ref (ad 0)), (0, .ref b)] [] (wC ad cy τ2 ++ wM ad2 cy2 σ2)) : zr_G p l e room_1 s m args below meth c Q D A 4 nc ns 775 [(3, .int (nI i)), (2, .ref (ad2 0)), (1, .ref (ad 0)), (0, .ref b)] [] (wC ad cy τ ++ wM ad2 cy2 σ) := by
  refine zr_aload_n K 2 dL_law_775 rfl rfl ?_
  refine zr_aload_n K 3 dL_law_776 rfl rfl ?_
  refine zr_iload_n K 0 dL_law_777 rfl rfl ?_
  refine zr_iconst K dL_law_778 (by decide : _ = (1 : Int32)) ?_
  refine zr_iadd K dL_law_779 ?_
  refine zr_sld K hX hbl hbA (lw_in (k := 1) (by decide) hi hL) dL_law_780 ?_
  refine zr_aload_n K 3 dL_law_781 rfl rfl ?_
  refine zr_iload_n K 0 dL_law_782 rfl rfl ?_
  refine zr_iconst K dL_law_783 (by decide : _ = (2 : Int32)) ?_
  refine zr_iadd K dL_law_784 ?_
  refine zr_sld K hX hbl hbA (lw_in (k := 2) (by decide) hi hL) dL_law_785 ?_
  refine zr_aload_n K 3 dL_law_786 rfl rfl ?_
  refine zr_iload_n K 0 dL_law_787 rfl rfl ?_
  refine zr_iconst K dL_law_788 (by decide : _ = (3 : Int32)) ?_
  refine zr_iadd K dL_law_789 ?_
  refine zr_sld K hX hbl hbA (lw_in (k := 3) (by decide) hi hL) dL_law_790 ?_
  refine zl_Ci K hNw [.int (xs (nI i + 1).toNatClampNeg), .int (xs (nI i + 2).toNatClampNeg), .int (xs (nI i + 3).toNatClampNeg)] (zc7_put l D ad cy (xs (nI i + 1).toNatClampNeg) (xs (nI i + 2).toNatClampNeg) (xs (nI i + 3).toNatClampNeg) τ _ (R_put h (xs (nI i + 1).toNatClampNeg) (xs (nI i + 2).toNatClampNeg) (xs (nI i + 3).toNatClampNeg))) gL_law_X7_put rfl ⟨rfl, rfl⟩ zdsL_yX7_put_v ⟨(Nat.le_of_ble_eq_true rfl), (Nat.le_of_ble_eq_true rfl)⟩ hcnt rfl rfl (Nat.le_of_ble_eq_true rfl) dL_law_791 (fun r τ2 hq => ?_)
  refine zr_aload_n K 1 dL_law_794 rfl rfl ?_
  refine zr_aload_n K 3 dL_law_795 rfl rfl ?_
  refine zr_iload_n K 0 dL_law_796 rfl rfl ?_
  refine zr_iconst K dL_law_797 (by decide : _ = (1 : Int32)) ?_
  refine zr_iadd K dL_law_798 ?_
  refine zr_sld K hX hbl hbA (lw_in (k := 1) (by decide) hi hL) dL_law_799 ?_
  refine zr_aload_n K 3 dL_law_800 rfl rfl ?_
  refine zr_iload_n K 0 dL_law_801 rfl rfl ?_
  refine zr_iconst K dL_law_802 (by decide : _ = (2 : Int32)) ?_
  refine zr_iadd K dL_law_803 ?_
  refine zr_sld K hX hbl hbA (lw_in (k := 2) (by decide) hi hL) dL_law_804 ?_
  refine zr_aload_n K 3 dL_law_805 rfl rfl ?_
  refine zr_iload_n K 0 dL_law_806 rfl rfl ?_
  refine zr_iconst K dL_law_807 (by decide : _ = (3 : Int32)) ?_
  refine zr_iadd K dL_law_808 ?_
  refine zr_sld K hX hbl hbA (lw_in (k := 3) (by decide) hi hL) dL_law_809 ?_
  refine zl_Mi K [.int (xs (nI i + 1).toNatClampNeg), .int (xs (nI i + 2).toNatClampNeg), .int (xs (nI i + 3).toNatClampNeg)] (zc8_put l D ad2 cy2 (xs (nI i + 1).toNatClampNeg) (xs (nI i + 2).toNatClampNeg) (xs (nI i + 3).toNatClampNeg) σ _ hq) gL_law_X8_put rfl ⟨rfl, rfl⟩ zdsL_yX8_put_v ⟨(Nat.le_of_ble_eq_true rfl), (Nat.le_of_ble_eq_true rfl)⟩ hcnt rfl rfl (Nat.le_of_ble_eq_true rfl) dL_law_810 (fun r2 σ2 hq2 => ?_)
  obtain ⟨hab, hrel⟩ := hq2
  exact zr_icmp_eq K 1119 dL_law_813 rfl (fun _ => next _ _ hrel) (fun h9 => absurd hab h9)
set_option maxHeartbeats 4000000 in
set_option maxRecDepth 100000 in
theorem law_24 {p : Program} {l : Launch} {e : Env} {s : State} {m : MethodId} {args : Array Value} {below : List Frame} {meth : Method} {c : Code} {Q : State → Prop} {D : va_G} {A : Nat → Prop} {ad ad2 : Nat → Nat} {cy cy2 : Nat → ClassId} {σ τ : zz_St} {b L i nc ns : Nat} {xs : Nat → Int32} (K : zr_K p s m args c cL_law 4 RL wsL_law D (tysC cy ++ tysM cy2) A) (hNw : ∀ w ∈ nwC, va_Nw w s) (hcnt : nc ≤ room_1.cells ∧ ns ≤ room_1.slots) (hX : va_X b L xs s s.heap) (hbl : b < s.heap.size) (hbA : ¬ A b) (hi : i + 4 ≤ L) (hL : L ≤ 2048) (h : Rel σ τ) (next : ∀ σ2 τ2 : zz_St, Rel σ2 τ2 → zr_G p l e room_1 s m args below meth c Q D A 4 nc ns 1119 [(3, .int (nI i)), (2, .ref (ad2 0)), (1, .ref (ad 0)), (0, .ref b)] [] (wC ad cy τ2 ++ wM ad2 cy2 σ2)) : zr_G p l e room_1 s m args below meth c Q D A 4 nc ns 818 [(3, .int (nI i)), (2, .ref (ad2 0)), (1, .ref (ad 0)), (0, .ref b)] [] (wC ad cy τ ++ wM ad2 cy2 σ) := by
  refine zr_aload_n K 2 dL_law_818 rfl rfl ?_
  refine zr_aload_n K 3 dL_law_819 rfl rfl ?_
  refine zr_iload_n K 0 dL_law_820 rfl rfl ?_
  refine zr_iconst K dL_law_821 (by decide : _ = (1 : Int32)) ?_
  refine zr_iadd K dL_law_822 ?_
  refine zr_sld K hX hbl hbA (lw_in (k := 1) (by decide) hi hL) dL_law_823 ?_
  refine zr_aload_n K 3 dL_law_824 rfl rfl ?_
  refine zr_iload_n K 0 dL_law_825 rfl rfl ?_
  refine zr_iconst K dL_law_826 (by decide : _ = (2 : Int32)) ?_
  refine zr_iadd K dL_law_827 ?_
  refine zr_sld K hX hbl hbA (lw_in (k := 2) (by decide) hi hL) dL_law_828 ?_
  refine zl_Cl K hNw [.int (xs (nI i + 1).toNatClampNeg), .int (xs (nI i + 2).toNatClampNeg)] (zc7_look l D ad cy (xs (nI i + 1).toNatClampNeg) (xs (nI i + 2).toNatClampNeg) τ _ (R_look h (xs (nI i + 1).toNatClampNeg) (xs (nI i + 2).toNatClampNeg))) gL_law_X7_look rfl ⟨rfl, rfl⟩ zdsL_yX7_look_v ⟨(Nat.le_of_ble_eq_true rfl), (Nat.le_of_ble_eq_true rfl)⟩ hcnt rfl rfl (Nat.le_of_ble_eq_true rfl) dL_law_829 (fun r τ2 hq => ?_)
  refine zr_aload_n K 1 dL_law_832 rfl rfl ?_
  refine zr_aload_n K 3 dL_law_833 rfl rfl ?_
  refine zr_iload_n K 0 dL_law_834 rfl rfl ?_
  refine zr_iconst K dL_law_835 (by decide : _ = (1 : Int32)) ?_
  refine zr_iadd K dL_law_836 ?_
  refine zr_sld K hX hbl hbA (lw_in (k := 1) (by decide) hi hL) dL_law_837 ?_
  refine zr_aload_n K 3 dL_law_838 rfl rfl ?_
  refine zr_iload_n K 0 dL_law_839 rfl rfl ?_
  refine zr_iconst K dL_law_840 (by decide : _ = (2 : Int32)) ?_
  refine zr_iadd K dL_law_841 ?_
  refine zr_sld K hX hbl hbA (lw_in (k := 2) (by decide) hi hL) dL_law_842 ?_
  refine zl_Ml K [.int (xs (nI i + 1).toNatClampNeg), .int (xs (nI i + 2).toNatClampNeg)] (zc8_look l D ad2 cy2 (xs (nI i + 1).toNatClampNeg) (xs (nI i + 2).toNatClampNeg) σ _ hq) gL_law_X8_look rfl ⟨rfl, rfl⟩ zdsL_yX8_look_v ⟨(Nat.le_of_ble_eq_true rfl), (Nat.le_of_ble_eq_true rfl)⟩ hcnt rfl rfl (Nat.le_of_ble_eq_true rfl) dL_law_843 (fun r2 σ2 hq2 => ?_)
  obtain ⟨hab, hrel⟩ := hq2
  refine zr_lcmp K dL_law_846 ?_
  exact zr_if_eq K 1119 dL_law_847 rfl (fun _ => next _ _ hrel) (fun h9 => absurd (by rw [hab]; exact (lg_cmp_eq _ _).mpr rfl) h9)
set_option maxHeartbeats 4000000 in
set_option maxRecDepth 100000 in
theorem law_25 {p : Program} {l : Launch} {e : Env} {s : State} {m : MethodId} {args : Array Value} {below : List Frame} {meth : Method} {c : Code} {Q : State → Prop} {D : va_G} {A : Nat → Prop} {ad ad2 : Nat → Nat} {cy cy2 : Nat → ClassId} {σ τ : zz_St} {b L i nc ns : Nat} {xs : Nat → Int32} (K : zr_K p s m args c cL_law 4 RL wsL_law D (tysC cy ++ tysM cy2) A) (hNw : ∀ w ∈ nwC, va_Nw w s) (hcnt : nc ≤ room_1.cells ∧ ns ≤ room_1.slots) (hX : va_X b L xs s s.heap) (hbl : b < s.heap.size) (hbA : ¬ A b) (hi : i + 4 ≤ L) (hL : L ≤ 2048) (h : Rel σ τ) (next : ∀ σ2 τ2 : zz_St, Rel σ2 τ2 → zr_G p l e room_1 s m args below meth c Q D A 4 nc ns 1119 [(3, .int (nI i)), (2, .ref (ad2 0)), (1, .ref (ad 0)), (0, .ref b)] [] (wC ad cy τ2 ++ wM ad2 cy2 σ2)) : zr_G p l e room_1 s m args below meth c Q D A 4 nc ns 852 [(3, .int (nI i)), (2, .ref (ad2 0)), (1, .ref (ad 0)), (0, .ref b)] [] (wC ad cy τ ++ wM ad2 cy2 σ) := by
  refine zr_aload_n K 2 dL_law_852 rfl rfl ?_
  refine zr_aload_n K 3 dL_law_853 rfl rfl ?_
  refine zr_iload_n K 0 dL_law_854 rfl rfl ?_
  refine zr_iconst K dL_law_855 (by decide : _ = (1 : Int32)) ?_
  refine zr_iadd K dL_law_856 ?_
  refine zr_sld K hX hbl hbA (lw_in (k := 1) (by decide) hi hL) dL_law_857 ?_
  refine zr_aload_n K 3 dL_law_858 rfl rfl ?_
  refine zr_iload_n K 0 dL_law_859 rfl rfl ?_
  refine zr_iconst K dL_law_860 (by decide : _ = (2 : Int32)) ?_
  refine zr_iadd K dL_law_861 ?_
  refine zr_sld K hX hbl hbA (lw_in (k := 2) (by decide) hi hL) dL_law_862 ?_
  refine zl_Ci K hNw [.int (xs (nI i + 1).toNatClampNeg), .int (xs (nI i + 2).toNatClampNeg)] (zc7_lays l D ad cy (xs (nI i + 1).toNatClampNeg) (xs (nI i + 2).toNatClampNeg) τ _ (R_lays h (xs (nI i + 1).toNatClampNeg) (xs (nI i + 2).toNatClampNeg))) gL_law_X7_lays rfl ⟨rfl, rfl⟩ zdsL_yX7_lays_v ⟨(Nat.le_of_ble_eq_true rfl), (Nat.le_of_ble_eq_true rfl)⟩ hcnt rfl rfl (Nat.le_of_ble_eq_true rfl) dL_law_863 (fun r τ2 hq => ?_)
  refine zr_aload_n K 1 dL_law_866 rfl rfl ?_
  refine zr_aload_n K 3 dL_law_867 rfl rfl ?_
  refine zr_iload_n K 0 dL_law_868 rfl rfl ?_
  refine zr_iconst K dL_law_869 (by decide : _ = (1 : Int32)) ?_
  refine zr_iadd K dL_law_870 ?_
  refine zr_sld K hX hbl hbA (lw_in (k := 1) (by decide) hi hL) dL_law_871 ?_
  refine zr_aload_n K 3 dL_law_872 rfl rfl ?_
  refine zr_iload_n K 0 dL_law_873 rfl rfl ?_
  refine zr_iconst K dL_law_874 (by decide : _ = (2 : Int32)) ?_
  refine zr_iadd K dL_law_875 ?_
  refine zr_sld K hX hbl hbA (lw_in (k := 2) (by decide) hi hL) dL_law_876 ?_
  refine zl_Mi K [.int (xs (nI i + 1).toNatClampNeg), .int (xs (nI i + 2).toNatClampNeg)] (zc8_lays l D ad2 cy2 (xs (nI i + 1).toNatClampNeg) (xs (nI i + 2).toNatClampNeg) σ _ hq) gL_law_X8_lays rfl ⟨rfl, rfl⟩ zdsL_yX8_lays_v ⟨(Nat.le_of_ble_eq_true rfl), (Nat.le_of_ble_eq_true rfl)⟩ hcnt rfl rfl (Nat.le_of_ble_eq_true rfl) dL_law_877 (fun r2 σ2 hq2 => ?_)
  obtain ⟨hab, hrel⟩ := hq2
  exact zr_icmp_eq K 1119 dL_law_880 rfl (fun _ => next _ _ hrel) (fun h9 => absurd hab h9)
set_option maxHeartbeats 4000000 in
set_option maxRecDepth 100000 in
theorem law_26 {p : Program} {l : Launch} {e : Env} {s : State} {m : MethodId} {args : Array Value} {below : List Frame} {meth : Method} {c : Code} {Q : State → Prop} {D : va_G} {A : Nat → Prop} {ad ad2 : Nat → Nat} {cy cy2 : Nat → ClassId} {σ τ : zz_St} {b L i nc ns : Nat} {xs : Nat → Int32} (K : zr_K p s m args c cL_law 4 RL wsL_law D (tysC cy ++ tysM cy2) A) (hNw : ∀ w ∈ nwC, va_Nw w s) (hcnt : nc ≤ room_1.cells ∧ ns ≤ room_1.slots) (hX : va_X b L xs s s.heap) (hbl : b < s.heap.size) (hbA : ¬ A b) (hi : i + 4 ≤ L) (hL : L ≤ 2048) (h : Rel σ τ) (next : ∀ σ2 τ2 : zz_St, Rel σ2 τ2 → zr_G p l e room_1 s m args below meth c Q D A 4 nc ns 1119 [(3, .int (nI i)), (2, .ref (ad2 0)), (1, .ref (ad 0)), (0, .ref b)] [] (wC ad cy τ2 ++ wM ad2 cy2 σ2)) : zr_G p l e room_1 s m args below meth c Q D A 4 nc ns 885 [(3, .int (nI i)), (2, .ref (ad2 0)), (1, .ref (ad 0)), (0, .ref b)] [] (wC ad cy τ ++ wM ad2 cy2 σ) := by
  refine zr_aload_n K 2 dL_law_885 rfl rfl ?_
  refine zr_aload_n K 3 dL_law_886 rfl rfl ?_
  refine zr_iload_n K 0 dL_law_887 rfl rfl ?_
  refine zr_iconst K dL_law_888 (by decide : _ = (1 : Int32)) ?_
  refine zr_iadd K dL_law_889 ?_
  refine zr_sld K hX hbl hbA (lw_in (k := 1) (by decide) hi hL) dL_law_890 ?_
  refine zl_Ci K hNw [.int (xs (nI i + 1).toNatClampNeg)] (zc7_tells l D ad cy (xs (nI i + 1).toNatClampNeg) τ _ (R_tells h (xs (nI i + 1).toNatClampNeg))) gL_law_X7_tells rfl ⟨rfl, rfl⟩ zdsL_yX7_tells_v ⟨(Nat.le_of_ble_eq_true rfl), (Nat.le_of_ble_eq_true rfl)⟩ hcnt rfl rfl (Nat.le_of_ble_eq_true rfl) dL_law_891 (fun r τ2 hq => ?_)
  refine zr_aload_n K 1 dL_law_894 rfl rfl ?_
  refine zr_aload_n K 3 dL_law_895 rfl rfl ?_
  refine zr_iload_n K 0 dL_law_896 rfl rfl ?_
  refine zr_iconst K dL_law_897 (by decide : _ = (1 : Int32)) ?_
  refine zr_iadd K dL_law_898 ?_
  refine zr_sld K hX hbl hbA (lw_in (k := 1) (by decide) hi hL) dL_law_899 ?_
  refine zl_Mi K [.int (xs (nI i + 1).toNatClampNeg)] (zc8_tells l D ad2 cy2 (xs (nI i + 1).toNatClampNeg) σ _ hq) gL_law_X8_tells rfl ⟨rfl, rfl⟩ zdsL_yX8_tells_v ⟨(Nat.le_of_ble_eq_true rfl), (Nat.le_of_ble_eq_true rfl)⟩ hcnt rfl rfl (Nat.le_of_ble_eq_true rfl) dL_law_900 (fun r2 σ2 hq2 => ?_)
  obtain ⟨hab, hrel⟩ := hq2
  exact zr_icmp_eq K 1119 dL_law_903 rfl (fun _ => next _ _ hrel) (fun h9 => absurd hab h9)
set_option maxHeartbeats 4000000 in
set_option maxRecDepth 100000 in
theorem law_27 {p : Program} {l : Launch} {e : Env} {s : State} {m : MethodId} {args : Array Value} {below : List Frame} {meth : Method} {c : Code} {Q : State → Prop} {D : va_G} {A : Nat → Prop} {ad ad2 : Nat → Nat} {cy cy2 : Nat → ClassId} {σ τ : zz_St} {b L i nc ns : Nat} {xs : Nat → Int32} (K : zr_K p s m args c cL_law 4 RL wsL_law D (tysC cy ++ tysM cy2) A) (hNw : ∀ w ∈ nwC, va_Nw w s) (hcnt : nc ≤ room_1.cells ∧ ns ≤ room_1.slots) (hX : va_X b L xs s s.heap) (hbl : b < s.heap.size) (hbA : ¬ A b) (hi : i + 4 ≤ L) (hL : L ≤ 2048) (h : Rel σ τ) (next : ∀ σ2 τ2 : zz_St, Rel σ2 τ2 → zr_G p l e room_1 s m args below meth c Q D A 4 nc ns 1119 [(3, .int (nI i)), (2, .ref (ad2 0)), (1, .ref (ad 0)), (0, .ref b)] [] (wC ad cy τ2 ++ wM ad2 cy2 σ2)) : zr_G p l e room_1 s m args below meth c Q D A 4 nc ns 908 [(3, .int (nI i)), (2, .ref (ad2 0)), (1, .ref (ad 0)), (0, .ref b)] [] (wC ad cy τ ++ wM ad2 cy2 σ) := by
  refine zr_aload_n K 2 dL_law_908 rfl rfl ?_
  refine zr_aload_n K 3 dL_law_909 rfl rfl ?_
  refine zr_iload_n K 0 dL_law_910 rfl rfl ?_
  refine zr_iconst K dL_law_911 (by decide : _ = (1 : Int32)) ?_
  refine zr_iadd K dL_law_912 ?_
  refine zr_sld K hX hbl hbA (lw_in (k := 1) (by decide) hi hL) dL_law_913 ?_
  refine zr_aload_n K 3 dL_law_914 rfl rfl ?_
  refine zr_iload_n K 0 dL_law_915 rfl rfl ?_
  refine zr_iconst K dL_law_916 (by decide : _ = (2 : Int32)) ?_
  refine zr_iadd K dL_law_917 ?_
  refine zr_sld K hX hbl hbA (lw_in (k := 2) (by decide) hi hL) dL_law_918 ?_
  refine zr_aload_n K 3 dL_law_919 rfl rfl ?_
  refine zr_iload_n K 0 dL_law_920 rfl rfl ?_
  refine zr_iconst K dL_law_921 (by decide : _ = (3 : Int32)) ?_
  refine zr_iadd K dL_law_922 ?_
  refine zr_sld K hX hbl hbA (lw_in (k := 3) (by decide) hi hL) dL_law_923 ?_
  refine zl_Ci K hNw [.int (xs (nI i + 1).toNatClampNeg), .int (xs (nI i + 2).toNatClampNeg), .int (xs (nI i + 3).toNatClampNeg)] (zc7_rack l D ad cy (xs (nI i + 1).toNatClampNeg) (xs (nI i + 2).toNatClampNeg) (xs (nI i + 3).toNatClampNeg) τ _ (R_rack h (xs (nI i + 1).toNatClampNeg) (xs (nI i + 2).toNatClampNeg) (xs (nI i + 3).toNatClampNeg))) gL_law_X7_rack rfl ⟨rfl, rfl⟩ zdsL_yX7_rack_v ⟨(Nat.le_of_ble_eq_true rfl), (Nat.le_of_ble_eq_true rfl)⟩ hcnt rfl rfl (Nat.le_of_ble_eq_true rfl) dL_law_924 (fun r τ2 hq => ?_)
  refine zr_aload_n K 1 dL_law_927 rfl rfl ?_
  refine zr_aload_n K 3 dL_law_928 rfl rfl ?_
  refine zr_iload_n K 0 dL_law_929 rfl rfl ?_
  refine zr_iconst K dL_law_930 (by decide : _ = (1 : Int32)) ?_
  refine zr_iadd K dL_law_931 ?_
  refine zr_sld K hX hbl hbA (lw_in (k := 1) (by decide) hi hL) dL_law_932 ?_
  refine zr_aload_n K 3 dL_law_933 rfl rfl ?_
  refine zr_iload_n K 0 dL_law_934 rfl rfl ?_
  refine zr_iconst K dL_law_935 (by decide : _ = (2 : Int32)) ?_
  refine zr_iadd K dL_law_936 ?_
  refine zr_sld K hX hbl hbA (lw_in (k := 2) (by decide) hi hL) dL_law_937 ?_
  refine zr_aload_n K 3 dL_law_938 rfl rfl ?_
  refine zr_iload_n K 0 dL_law_939 rfl rfl ?_
  refine zr_iconst K dL_law_940 (by decide : _ = (3 : Int32)) ?_
  refine zr_iadd K dL_law_941 ?_
  refine zr_sld K hX hbl hbA (lw_in (k := 3) (by decide) hi hL) dL_law_942 ?_
  refine zl_Mi K [.int (xs (nI i + 1).toNatClampNeg), .int (xs (nI i + 2).toNatClampNeg), .int (xs (nI i + 3).toNatClampNeg)] (zc8_rack l D ad2 cy2 (xs (nI i + 1).toNatClampNeg) (xs (nI i + 2).toNatClampNeg) (xs (nI i + 3).toNatClampNeg) σ _ hq) gL_law_X8_rack rfl ⟨rfl, rfl⟩ zdsL_yX8_rack_v ⟨(Nat.le_of_ble_eq_true rfl), (Nat.le_of_ble_eq_true rfl)⟩ hcnt rfl rfl (Nat.le_of_ble_eq_true rfl) dL_law_943 (fun r2 σ2 hq2 => ?_)
  obtain ⟨hab, hrel⟩ := hq2
  exact zr_icmp_eq K 1119 dL_law_946 rfl (fun _ => next _ _ hrel) (fun h9 => absurd hab h9)
set_option maxHeartbeats 4000000 in
set_option maxRecDepth 100000 in
theorem law_28 {p : Program} {l : Launch} {e : Env} {s : State} {m : MethodId} {args : Array Value} {below : List Frame} {meth : Method} {c : Code} {Q : State → Prop} {D : va_G} {A : Nat → Prop} {ad ad2 : Nat → Nat} {cy cy2 : Nat → ClassId} {σ τ : zz_St} {b L i nc ns : Nat} {xs : Nat → Int32} (K : zr_K p s m args c cL_law 4 RL wsL_law D (tysC cy ++ tysM cy2) A) (hNw : ∀ w ∈ nwC, va_Nw w s) (hcnt : nc ≤ room_1.cells ∧ ns ≤ room_1.slots) (hX : va_X b L xs s s.heap) (hbl : b < s.heap.size) (hbA : ¬ A b) (hi : i + 4 ≤ L) (hL : L ≤ 2048) (h : Rel σ τ) (next : ∀ σ2 τ2 : zz_St, Rel σ2 τ2 → zr_G p l e room_1 s m args below meth c Q D A 4 nc ns 1119 [(3, .int (nI i)), (2, .ref (ad2 0)), (1, .ref (ad 0)), (0, .ref b)] [] (wC ad cy τ2 ++ wM ad2 cy2 σ2)) : zr_G p l e room_1 s m args below meth c Q D A 4 nc ns 951 [(3, .int (nI i)), (2, .ref (ad2 0)), (1, .ref (ad 0)), (0, .ref b)] [] (wC ad cy τ ++ wM ad2 cy2 σ) := by
  refine zr_aload_n K 2 dL_law_951 rfl rfl ?_
  refine zr_aload_n K 3 dL_law_952 rfl rfl ?_
  refine zr_iload_n K 0 dL_law_953 rfl rfl ?_
  refine zr_iconst K dL_law_954 (by decide : _ = (1 : Int32)) ?_
  refine zr_iadd K dL_law_955 ?_
  refine zr_sld K hX hbl hbA (lw_in (k := 1) (by decide) hi hL) dL_law_956 ?_
  refine zr_aload_n K 3 dL_law_957 rfl rfl ?_
  refine zr_iload_n K 0 dL_law_958 rfl rfl ?_
  refine zr_iconst K dL_law_959 (by decide : _ = (2 : Int32)) ?_
  refine zr_iadd K dL_law_960 ?_
  refine zr_sld K hX hbl hbA (lw_in (k := 2) (by decide) hi hL) dL_law_961 ?_
  refine zr_aload_n K 3 dL_law_962 rfl rfl ?_
  refine zr_iload_n K 0 dL_law_963 rfl rfl ?_
  refine zr_iconst K dL_law_964 (by decide : _ = (3 : Int32)) ?_
  refine zr_iadd K dL_law_965 ?_
  refine zr_sld K hX hbl hbA (lw_in (k := 3) (by decide) hi hL) dL_law_966 ?_
  refine zl_Ci K hNw [.int (xs (nI i + 1).toNatClampNeg), .int (xs (nI i + 2).toNatClampNeg), .int (xs (nI i + 3).toNatClampNeg)] (zc7_racks l D ad cy (xs (nI i + 1).toNatClampNeg) (xs (nI i + 2).toNatClampNeg) (xs (nI i + 3).toNatClampNeg) τ _ (R_racks h (xs (nI i + 1).toNatClampNeg) (xs (nI i + 2).toNatClampNeg) (xs (nI i + 3).toNatClampNeg))) gL_law_X7_racks rfl ⟨rfl, rfl⟩ zdsL_yX7_racks_v ⟨(Nat.le_of_ble_eq_true rfl), (Nat.le_of_ble_eq_true rfl)⟩ hcnt rfl rfl (Nat.le_of_ble_eq_true rfl) dL_law_967 (fun r τ2 hq => ?_)
  refine zr_aload_n K 1 dL_law_970 rfl rfl ?_
  refine zr_aload_n K 3 dL_law_971 rfl rfl ?_
  refine zr_iload_n K 0 dL_law_972 rfl rfl ?_
  refine zr_iconst K dL_law_973 (by decide : _ = (1 : Int32)) ?_
  refine zr_iadd K dL_law_974 ?_
  refine zr_sld K hX hbl hbA (lw_in (k := 1) (by decide) hi hL) dL_law_975 ?_
  refine zr_aload_n K 3 dL_law_976 rfl rfl ?_
  refine zr_iload_n K 0 dL_law_977 rfl rfl ?_
  refine zr_iconst K dL_law_978 (by decide : _ = (2 : Int32)) ?_
  refine zr_iadd K dL_law_979 ?_
  refine zr_sld K hX hbl hbA (lw_in (k := 2) (by decide) hi hL) dL_law_980 ?_
  refine zr_aload_n K 3 dL_law_981 rfl rfl ?_
  refine zr_iload_n K 0 dL_law_982 rfl rfl ?_
  refine zr_iconst K dL_law_983 (by decide : _ = (3 : Int32)) ?_
  refine zr_iadd K dL_law_984 ?_
  refine zr_sld K hX hbl hbA (lw_in (k := 3) (by decide) hi hL) dL_law_985 ?_
  refine zl_Mi K [.int (xs (nI i + 1).toNatClampNeg), .int (xs (nI i + 2).toNatClampNeg), .int (xs (nI i + 3).toNatClampNeg)] (zc8_racks l D ad2 cy2 (xs (nI i + 1).toNatClampNeg) (xs (nI i + 2).toNatClampNeg) (xs (nI i + 3).toNatClampNeg) σ _ hq) gL_law_X8_racks rfl ⟨rfl, rfl⟩ zdsL_yX8_racks_v ⟨(Nat.le_of_ble_eq_true rfl), (Nat.le_of_ble_eq_true rfl)⟩ hcnt rfl rfl (Nat.le_of_ble_eq_true rfl) dL_law_986 (fun r2 σ2 hq2 => ?_)
  obtain ⟨hab, hrel⟩ := hq2
  exact zr_icmp_eq K 1119 dL_law_989 rfl (fun _ => next _ _ hrel) (fun h9 => absurd hab h9)
set_option maxHeartbeats 4000000 in
set_option maxRecDepth 100000 in
theorem law_29 {p : Program} {l : Launch} {e : Env} {s : State} {m : MethodId} {args : Array Value} {below : List Frame} {meth : Method} {c : Code} {Q : State → Prop} {D : va_G} {A : Nat → Prop} {ad ad2 : Nat → Nat} {cy cy2 : Nat → ClassId} {σ τ : zz_St} {b L i nc ns : Nat} {xs : Nat → Int32} (K : zr_K p s m args c cL_law 4 RL wsL_law D (tysC cy ++ tysM cy2) A) (hNw : ∀ w ∈ nwC, va_Nw w s) (hcnt : nc ≤ room_1.cells ∧ ns ≤ room_1.slots) (hX : va_X b L xs s s.heap) (hbl : b < s.heap.size) (hbA : ¬ A b) (hi : i + 4 ≤ L) (hL : L ≤ 2048) (h : Rel σ τ) (next : ∀ σ2 τ2 : zz_St, Rel σ2 τ2 → zr_G p l e room_1 s m args below meth c Q D A 4 nc ns 1119 [(3, .int (nI i)), (2, .ref (ad2 0)), (1, .ref (ad 0)), (0, .ref b)] [] (wC ad cy τ2 ++ wM ad2 cy2 σ2)) : zr_G p l e room_1 s m args below meth c Q D A 4 nc ns 994 [(3, .int (nI i)), (2, .ref (ad2 0)), (1, .ref (ad 0)), (0, .ref b)] [] (wC ad cy τ ++ wM ad2 cy2 σ) := by
  refine zr_aload_n K 2 dL_law_994 rfl rfl ?_
  refine zr_aload_n K 3 dL_law_995 rfl rfl ?_
  refine zr_iload_n K 0 dL_law_996 rfl rfl ?_
  refine zr_iconst K dL_law_997 (by decide : _ = (1 : Int32)) ?_
  refine zr_iadd K dL_law_998 ?_
  refine zr_sld K hX hbl hbA (lw_in (k := 1) (by decide) hi hL) dL_law_999 ?_
  refine zr_aload_n K 3 dL_law_1000 rfl rfl ?_
  refine zr_iload_n K 0 dL_law_1001 rfl rfl ?_
  refine zr_iconst K dL_law_1002 (by decide : _ = (2 : Int32)) ?_
  refine zr_iadd K dL_law_1003 ?_
  refine zr_sld K hX hbl hbA (lw_in (k := 2) (by decide) hi hL) dL_law_1004 ?_
  refine zr_aload_n K 3 dL_law_1005 rfl rfl ?_
  refine zr_iload_n K 0 dL_law_1006 rfl rfl ?_
  refine zr_iconst K dL_law_1007 (by decide : _ = (3 : Int32)) ?_
  refine zr_iadd K dL_law_1008 ?_
  refine zr_sld K hX hbl hbA (lw_in (k := 3) (by decide) hi hL) dL_law_1009 ?_
  refine zl_Ci K hNw [.int (xs (nI i + 1).toNatClampNeg), .int (xs (nI i + 2).toNatClampNeg), .int (xs (nI i + 3).toNatClampNeg)] (zc7_racked l D ad cy (xs (nI i + 1).toNatClampNeg) (xs (nI i + 2).toNatClampNeg) (xs (nI i + 3).toNatClampNeg) τ _ (R_racked h (xs (nI i + 1).toNatClampNeg) (xs (nI i + 2).toNatClampNeg) (xs (nI i + 3).toNatClampNeg))) gL_law_X7_racked rfl ⟨rfl, rfl⟩ zdsL_yX7_racked_v ⟨(Nat.le_of_ble_eq_true rfl), (Nat.le_of_ble_eq_true rfl)⟩ hcnt rfl rfl (Nat.le_of_ble_eq_true rfl) dL_law_1010 (fun r τ2 hq => ?_)
  refine zr_aload_n K 1 dL_law_1013 rfl rfl ?_
  refine zr_aload_n K 3 dL_law_1014 rfl rfl ?_
  refine zr_iload_n K 0 dL_law_1015 rfl rfl ?_
  refine zr_iconst K dL_law_1016 (by decide : _ = (1 : Int32)) ?_
  refine zr_iadd K dL_law_1017 ?_
  refine zr_sld K hX hbl hbA (lw_in (k := 1) (by decide) hi hL) dL_law_1018 ?_
  refine zr_aload_n K 3 dL_law_1019 rfl rfl ?_
  refine zr_iload_n K 0 dL_law_1020 rfl rfl ?_
  refine zr_iconst K dL_law_1021 (by decide : _ = (2 : Int32)) ?_
  refine zr_iadd K dL_law_1022 ?_
  refine zr_sld K hX hbl hbA (lw_in (k := 2) (by decide) hi hL) dL_law_1023 ?_
  refine zr_aload_n K 3 dL_law_1024 rfl rfl ?_
  refine zr_iload_n K 0 dL_law_1025 rfl rfl ?_
  refine zr_iconst K dL_law_1026 (by decide : _ = (3 : Int32)) ?_
  refine zr_iadd K dL_law_1027 ?_
  refine zr_sld K hX hbl hbA (lw_in (k := 3) (by decide) hi hL) dL_law_1028 ?_
  refine zl_Mi K [.int (xs (nI i + 1).toNatClampNeg), .int (xs (nI i + 2).toNatClampNeg), .int (xs (nI i + 3).toNatClampNeg)] (zc8_racked l D ad2 cy2 (xs (nI i + 1).toNatClampNeg) (xs (nI i + 2).toNatClampNeg) (xs (nI i + 3).toNatClampNeg) σ _ hq) gL_law_X8_racked rfl ⟨rfl, rfl⟩ zdsL_yX8_racked_v ⟨(Nat.le_of_ble_eq_true rfl), (Nat.le_of_ble_eq_true rfl)⟩ hcnt rfl rfl (Nat.le_of_ble_eq_true rfl) dL_law_1029 (fun r2 σ2 hq2 => ?_)
  obtain ⟨hab, hrel⟩ := hq2
  exact zr_icmp_eq K 1119 dL_law_1032 rfl (fun _ => next _ _ hrel) (fun h9 => absurd hab h9)
set_option maxHeartbeats 4000000 in
set_option maxRecDepth 100000 in
theorem law_30 {p : Program} {l : Launch} {e : Env} {s : State} {m : MethodId} {args : Array Value} {below : List Frame} {meth : Method} {c : Code} {Q : State → Prop} {D : va_G} {A : Nat → Prop} {ad ad2 : Nat → Nat} {cy cy2 : Nat → ClassId} {σ τ : zz_St} {b L i nc ns : Nat} {xs : Nat → Int32} (K : zr_K p s m args c cL_law 4 RL wsL_law D (tysC cy ++ tysM cy2) A) (hNw : ∀ w ∈ nwC, va_Nw w s) (hcnt : nc ≤ room_1.cells ∧ ns ≤ room_1.slots) (hX : va_X b L xs s s.heap) (hbl : b < s.heap.size) (hbA : ¬ A b) (hi : i + 4 ≤ L) (hL : L ≤ 2048) (h : Rel σ τ) (next : ∀ σ2 τ2 : zz_St, Rel σ2 τ2 → zr_G p l e room_1 s m args below meth c Q D A 4 nc ns 1119 [(3, .int (nI i)), (2, .ref (ad2 0)), (1, .ref (ad 0)), (0, .ref b)] [] (wC ad cy τ2 ++ wM ad2 cy2 σ2)) : zr_G p l e room_1 s m args below meth c Q D A 4 nc ns 1037 [(3, .int (nI i)), (2, .ref (ad2 0)), (1, .ref (ad 0)), (0, .ref b)] [] (wC ad cy τ ++ wM ad2 cy2 σ) := by
  refine zr_aload_n K 2 dL_law_1037 rfl rfl ?_
  refine zr_aload_n K 3 dL_law_1038 rfl rfl ?_
  refine zr_iload_n K 0 dL_law_1039 rfl rfl ?_
  refine zr_iconst K dL_law_1040 (by decide : _ = (1 : Int32)) ?_
  refine zr_iadd K dL_law_1041 ?_
  refine zr_sld K hX hbl hbA (lw_in (k := 1) (by decide) hi hL) dL_law_1042 ?_
  refine zr_aload_n K 3 dL_law_1043 rfl rfl ?_
  refine zr_iload_n K 0 dL_law_1044 rfl rfl ?_
  refine zr_iconst K dL_law_1045 (by decide : _ = (2 : Int32)) ?_
  refine zr_iadd K dL_law_1046 ?_
  refine zr_sld K hX hbl hbA (lw_in (k := 2) (by decide) hi hL) dL_law_1047 ?_
  refine zl_Ci K hNw [.int (xs (nI i + 1).toNatClampNeg), .int (xs (nI i + 2).toNatClampNeg)] (zc7_like l D ad cy (xs (nI i + 1).toNatClampNeg) (xs (nI i + 2).toNatClampNeg) τ _ (R_like h (xs (nI i + 1).toNatClampNeg) (xs (nI i + 2).toNatClampNeg))) gL_law_X7_like rfl ⟨rfl, rfl⟩ zdsL_yX7_like_v ⟨(Nat.le_of_ble_eq_true rfl), (Nat.le_of_ble_eq_true rfl)⟩ hcnt rfl rfl (Nat.le_of_ble_eq_true rfl) dL_law_1048 (fun r τ2 hq => ?_)
  refine zr_aload_n K 1 dL_law_1051 rfl rfl ?_
  refine zr_aload_n K 3 dL_law_1052 rfl rfl ?_
  refine zr_iload_n K 0 dL_law_1053 rfl rfl ?_
  refine zr_iconst K dL_law_1054 (by decide : _ = (1 : Int32)) ?_
  refine zr_iadd K dL_law_1055 ?_
  refine zr_sld K hX hbl hbA (lw_in (k := 1) (by decide) hi hL) dL_law_1056 ?_
  refine zr_aload_n K 3 dL_law_1057 rfl rfl ?_
  refine zr_iload_n K 0 dL_law_1058 rfl rfl ?_
  refine zr_iconst K dL_law_1059 (by decide : _ = (2 : Int32)) ?_
  refine zr_iadd K dL_law_1060 ?_
  refine zr_sld K hX hbl hbA (lw_in (k := 2) (by decide) hi hL) dL_law_1061 ?_
  refine zl_Mi K [.int (xs (nI i + 1).toNatClampNeg), .int (xs (nI i + 2).toNatClampNeg)] (zc8_like l D ad2 cy2 (xs (nI i + 1).toNatClampNeg) (xs (nI i + 2).toNatClampNeg) σ _ hq) gL_law_X8_like rfl ⟨rfl, rfl⟩ zdsL_yX8_like_v ⟨(Nat.le_of_ble_eq_true rfl), (Nat.le_of_ble_eq_true rfl)⟩ hcnt rfl rfl (Nat.le_of_ble_eq_true rfl) dL_law_1062 (fun r2 σ2 hq2 => ?_)
  obtain ⟨hab, hrel⟩ := hq2
  exact zr_icmp_eq K 1119 dL_law_1065 rfl (fun _ => next _ _ hrel) (fun h9 => absurd hab h9)
set_option maxHeartbeats 4000000 in
set_option maxRecDepth 100000 in
theorem law_31 {p : Program} {l : Launch} {e : Env} {s : State} {m : MethodId} {args : Array Value} {below : List Frame} {meth : Method} {c : Code} {Q : State → Prop} {D : va_G} {A : Nat → Prop} {ad ad2 : Nat → Nat} {cy cy2 : Nat → ClassId} {σ τ : zz_St} {b L i nc ns : Nat} {xs : Nat → Int32} (K : zr_K p s m args c cL_law 4 RL wsL_law D (tysC cy ++ tysM cy2) A) (hNw : ∀ w ∈ nwC, va_Nw w s) (hcnt : nc ≤ room_1.cells ∧ ns ≤ room_1.slots) (hX : va_X b L xs s s.heap) (hbl : b < s.heap.size) (hbA : ¬ A b) (hi : i + 4 ≤ L) (hL : L ≤ 2048) (h : Rel σ τ) (next : ∀ σ2 τ2 : zz_St, Rel σ2 τ2 → zr_G p l e room_1 s m args below meth c Q D A 4 nc ns 1119 [(3, .int (nI i)), (2, .ref (ad2 0)), (1, .ref (ad 0)), (0, .ref b)] [] (wC ad cy τ2 ++ wM ad2 cy2 σ2)) : zr_G p l e room_1 s m args below meth c Q D A 4 nc ns 1070 [(3, .int (nI i)), (2, .ref (ad2 0)), (1, .ref (ad 0)), (0, .ref b)] [] (wC ad cy τ ++ wM ad2 cy2 σ) := by
  refine zr_aload_n K 2 dL_law_1070 rfl rfl ?_
  refine zl_Ci K hNw [] (zc7_image l D ad cy  τ _ (R_image h )) gL_law_X7_image rfl ⟨rfl, rfl⟩ zdsL_yX7_image_v ⟨(Nat.le_of_ble_eq_true rfl), (Nat.le_of_ble_eq_true rfl)⟩ hcnt rfl rfl (Nat.le_of_ble_eq_true rfl) dL_law_1071 (fun r τ2 hq => ?_)
  refine zr_aload_n K 1 dL_law_1074 rfl rfl ?_
  refine zl_Mi K [] (zc8_image l D ad2 cy2  σ _ hq) gL_law_X8_image rfl ⟨rfl, rfl⟩ zdsL_yX8_image_v ⟨(Nat.le_of_ble_eq_true rfl), (Nat.le_of_ble_eq_true rfl)⟩ hcnt rfl rfl (Nat.le_of_ble_eq_true rfl) dL_law_1075 (fun r2 σ2 hq2 => ?_)
  obtain ⟨hab, hrel⟩ := hq2
  exact zr_icmp_eq K 1119 dL_law_1078 rfl (fun _ => next _ _ hrel) (fun h9 => absurd hab h9)
set_option maxHeartbeats 4000000 in
set_option maxRecDepth 100000 in
theorem law_32 {p : Program} {l : Launch} {e : Env} {s : State} {m : MethodId} {args : Array Value} {below : List Frame} {meth : Method} {c : Code} {Q : State → Prop} {D : va_G} {A : Nat → Prop} {ad ad2 : Nat → Nat} {cy cy2 : Nat → ClassId} {σ τ : zz_St} {b L i nc ns : Nat} {xs : Nat → Int32} (K : zr_K p s m args c cL_law 4 RL wsL_law D (tysC cy ++ tysM cy2) A) (hNw : ∀ w ∈ nwC, va_Nw w s) (hcnt : nc ≤ room_1.cells ∧ ns ≤ room_1.slots) (hX : va_X b L xs s s.heap) (hbl : b < s.heap.size) (hbA : ¬ A b) (hi : i + 4 ≤ L) (hL : L ≤ 2048) (h : Rel σ τ) (next : ∀ σ2 τ2 : zz_St, Rel σ2 τ2 → zr_G p l e room_1 s m args below meth c Q D A 4 nc ns 1119 [(3, .int (nI i)), (2, .ref (ad2 0)), (1, .ref (ad 0)), (0, .ref b)] [] (wC ad cy τ2 ++ wM ad2 cy2 σ2)) : zr_G p l e room_1 s m args below meth c Q D A 4 nc ns 1083 [(3, .int (nI i)), (2, .ref (ad2 0)), (1, .ref (ad 0)), (0, .ref b)] [] (wC ad cy τ ++ wM ad2 cy2 σ) := by
  refine zr_aload_n K 2 dL_law_1083 rfl rfl ?_
  refine zl_Ci K hNw [] (zc7_on l D ad cy  τ _ (R_on h )) gL_law_X7_on rfl ⟨rfl, rfl⟩ zdsL_yX7_on_v ⟨(Nat.le_of_ble_eq_true rfl), (Nat.le_of_ble_eq_true rfl)⟩ hcnt rfl rfl (Nat.le_of_ble_eq_true rfl) dL_law_1084 (fun r τ2 hq => ?_)
  refine zr_aload_n K 1 dL_law_1087 rfl rfl ?_
  refine zl_Mi K [] (zc8_on l D ad2 cy2  σ _ hq) gL_law_X8_on rfl ⟨rfl, rfl⟩ zdsL_yX8_on_v ⟨(Nat.le_of_ble_eq_true rfl), (Nat.le_of_ble_eq_true rfl)⟩ hcnt rfl rfl (Nat.le_of_ble_eq_true rfl) dL_law_1088 (fun r2 σ2 hq2 => ?_)
  obtain ⟨hab, hrel⟩ := hq2
  exact zr_icmp_eq K 1119 dL_law_1091 rfl (fun _ => next _ _ hrel) (fun h9 => absurd hab h9)
set_option maxHeartbeats 4000000 in
set_option maxRecDepth 100000 in
theorem law_33 {p : Program} {l : Launch} {e : Env} {s : State} {m : MethodId} {args : Array Value} {below : List Frame} {meth : Method} {c : Code} {Q : State → Prop} {D : va_G} {A : Nat → Prop} {ad ad2 : Nat → Nat} {cy cy2 : Nat → ClassId} {σ τ : zz_St} {b L i nc ns : Nat} {xs : Nat → Int32} (K : zr_K p s m args c cL_law 4 RL wsL_law D (tysC cy ++ tysM cy2) A) (hNw : ∀ w ∈ nwC, va_Nw w s) (hcnt : nc ≤ room_1.cells ∧ ns ≤ room_1.slots) (hX : va_X b L xs s s.heap) (hbl : b < s.heap.size) (hbA : ¬ A b) (hi : i + 4 ≤ L) (hL : L ≤ 2048) (h : Rel σ τ) (next : ∀ σ2 τ2 : zz_St, Rel σ2 τ2 → zr_G p l e room_1 s m args below meth c Q D A 4 nc ns 1119 [(3, .int (nI i)), (2, .ref (ad2 0)), (1, .ref (ad 0)), (0, .ref b)] [] (wC ad cy τ2 ++ wM ad2 cy2 σ2)) : zr_G p l e room_1 s m args below meth c Q D A 4 nc ns 1096 [(3, .int (nI i)), (2, .ref (ad2 0)), (1, .ref (ad 0)), (0, .ref b)] [] (wC ad cy τ ++ wM ad2 cy2 σ) := by
  refine zr_aload_n K 2 dL_law_1096 rfl rfl ?_
  refine zr_aload_n K 3 dL_law_1097 rfl rfl ?_
  refine zr_iload_n K 0 dL_law_1098 rfl rfl ?_
  refine zr_iconst K dL_law_1099 (by decide : _ = (1 : Int32)) ?_
  refine zr_iadd K dL_law_1100 ?_
  refine zr_sld K hX hbl hbA (lw_in (k := 1) (by decide) hi hL) dL_law_1101 ?_
  refine zl_Ci K hNw [.int (xs (nI i + 1).toNatClampNeg)] (zc7_count l D ad cy (xs (nI i + 1).toNatClampNeg) τ _ (R_count h (xs (nI i + 1).toNatClampNeg))) gL_law_X7_count rfl ⟨rfl, rfl⟩ zdsL_yX7_count_v ⟨(Nat.le_of_ble_eq_true rfl), (Nat.le_of_ble_eq_true rfl)⟩ hcnt rfl rfl (Nat.le_of_ble_eq_true rfl) dL_law_1102 (fun r τ2 hq => ?_)
  obtain ⟨rfl, hq⟩ := hq
  refine zr_aload_n K 1 dL_law_1105 rfl rfl ?_
  refine zr_aload_n K 3 dL_law_1106 rfl rfl ?_
  refine zr_iload_n K 0 dL_law_1107 rfl rfl ?_
  refine zr_iconst K dL_law_1108 (by decide : _ = (1 : Int32)) ?_
  refine zr_iadd K dL_law_1109 ?_
  refine zr_sld K hX hbl hbA (lw_in (k := 1) (by decide) hi hL) dL_law_1110 ?_
  refine zl_Mi K [.int (xs (nI i + 1).toNatClampNeg)] (zc8_count l D ad2 cy2 (xs (nI i + 1).toNatClampNeg) σ _ hq) gL_law_X8_count rfl ⟨rfl, rfl⟩ zdsL_yX8_count_v ⟨(Nat.le_of_ble_eq_true rfl), (Nat.le_of_ble_eq_true rfl)⟩ hcnt rfl rfl (Nat.le_of_ble_eq_true rfl) dL_law_1111 (fun r2 σ2 hq2 => ?_)
  obtain ⟨rfl, hab⟩ := hq2
  have hrel := h
  exact zr_icmp_eq K 1119 dL_law_1114 rfl (fun _ => next _ _ hrel) (fun h9 => absurd hab h9)
