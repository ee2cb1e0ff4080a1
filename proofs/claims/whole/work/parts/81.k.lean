theorem zlk_X3_init_1 : Cond.methodLink RX3 3 objectInit ∈ wsX3_init := List.mem_of_getElem? (i := 1) rfl
theorem zlk_X3_init_2 : Cond.instanceMethod objectInit ∈ wsX3_init := List.mem_of_getElem? (i := 2) rfl
theorem zlk_X3_init_3 : Cond.code objectInit ⟨#[0xb1]⟩ 1 none ∈ wsX3_init := List.mem_of_getElem? (i := 3) rfl
theorem zlk_X3_init_4 : Cond.arrayClass .int ∈ wsX3_init := List.mem_of_getElem? (i := 4) rfl
theorem zin_X3_init_X3 : ∀ w ∈ wsX30, w ∈ wsX3_init := fun w h => List.mem_cons_of_mem _ (List.mem_append_right _ h)
theorem zlk_X3_init_5 : Cond.fieldLink RX3 9 "SolidsRolled$Row" "values" "[I" ∈ wsX3_init := List.mem_of_getElem? (i := 5) rfl
theorem zlk_X3_init_6 : Cond.fieldLink RX3 15 "SolidsRolled$Row" "size" "I" ∈ wsX3_init := List.mem_of_getElem? (i := 6) rfl
set_option maxHeartbeats 4000000 in
set_option maxRecDepth 100000 in
theorem zk_X3_init (l : Launch) (D : va_G) (cI : ClassId) (h0 : Nat) : zr_Mv l yX3_init wsX3_init { frames := 1, cells := 1, slots := 40, locals := 12 } D [(cI, .int)] [.ref h0] (fun _ => True) [(h0, .inr (3, [.null, .int 0]))] (fun u => ∃ q1 : Nat, u = [(h0, .inr (3, [.ref q1, .int (-1)])), (q1, .inl (cI, 40, .inl (fun _ => 0)))]) 1 40 := by
  refine zr_Mv.of (cc := cX3_init) (maxL := 1) (by decide +kernel) rfl (Nat.le_of_ble_eq_true rfl) ?_
  intro p e s m args below meth c A QW K hX hNA hnm hret
  refine zr_sub [0] [(0, .ref h0)] rfl ?_
  refine zr_aload_n K 0 dX3_init_0 rfl rfl ?_
  refine zr_obj K zlk_X3_init_1 zlk_X3_init_2 zlk_X3_init_3 (Nat.le_of_ble_eq_true rfl) (Nat.le_of_ble_eq_true rfl) dX3_init_1 ?_
  refine zr_aload_n K 0 dX3_init_4 rfl rfl ?_
  refine zr_bipush K dX3_init_5 (by decide : _ = (40 : Int32)) ?_
  refine zr_newi K 0 rfl (N' := 40) zlk_X3_init_4 (by decide) rfl (Nat.le_of_ble_eq_true rfl) (Nat.le_of_ble_eq_true rfl) (Nat.le_of_ble_eq_true rfl) dX3_init_7 (fun q1 => ?_)
  refine zr_ws (ws2 := [(h0, .inr (3, [.null, .int 0])), (q1, .inl (cI, 40, .inl (fun _ => 0)))]) rfl ?_
  refine zr_widen (nc2 := 1) (ns2 := 40) (Nat.le_of_ble_eq_true rfl) (Nat.le_of_ble_eq_true rfl) ?_
  refine zr_putF K hnm (ty := (.array .int)) zin_X3_init_X3 tyX3 tyX3_ok nmX3 (q0 := 0) rfl rfl 0 (by decide) rfl zlk_X3_init_5 rfl rfl (by decide +kernel) rfl rfl (Nat.le_of_ble_eq_true rfl) [(h0, .inr (3, [.ref q1, .int 0])), (q1, .inl (cI, 40, .inl (fun _ => 0)))] rfl dX3_init_9 ?_
  refine zr_aload_n K 0 dX3_init_12 rfl rfl ?_
  refine zr_iconst K dX3_init_13 (by decide : _ = (-1 : Int32)) ?_
  refine zr_put K (ty := .int) zin_X3_init_X3 tyX3 tyX3_ok nmX3 (q0 := 0) rfl rfl 1 (by decide) rfl zlk_X3_init_6 rfl (by decide +kernel) rfl rfl (Nat.le_of_ble_eq_true rfl) [(h0, .inr (3, [.ref q1, .int (-1)])), (q1, .inl (cI, 40, .inl (fun _ => 0)))] rfl dX3_init_14 ?_
  exact hret _ ⟨q1, rfl⟩ _ _ dX3_init_17
theorem zlk_X2_init_1 : Cond.methodLink RX2 3 objectInit ∈ wsX2_init := List.mem_of_getElem? (i := 1) rfl
theorem zlk_X2_init_2 : Cond.instanceMethod objectInit ∈ wsX2_init := List.mem_of_getElem? (i := 2) rfl
theorem zlk_X2_init_3 : Cond.code objectInit ⟨#[0xb1]⟩ 1 none ∈ wsX2_init := List.mem_of_getElem? (i := 3) rfl
theorem zlk_X2_init_4 : Cond.arrayClass .int ∈ wsX2_init := List.mem_of_getElem? (i := 4) rfl
theorem zin_X2_init_X2 : ∀ w ∈ wsX20, w ∈ wsX2_init := fun w h => List.mem_cons_of_mem _ (List.mem_append_right _ h)
theorem zlk_X2_init_5 : Cond.fieldLink RX2 9 "SolidsRolled$Rack" "kinds" "[I" ∈ wsX2_init := List.mem_of_getElem? (i := 5) rfl
theorem zlk_X2_init_6 : Cond.fieldLink RX2 15 "SolidsRolled$Rack" "below" "[I" ∈ wsX2_init := List.mem_of_getElem? (i := 6) rfl
theorem zlk_X2_init_7 : Cond.fieldLink RX2 18 "SolidsRolled$Rack" "madeFor" "I" ∈ wsX2_init := List.mem_of_getElem? (i := 7) rfl
theorem zlk_X2_init_8 : Cond.fieldLink RX2 22 "SolidsRolled$Rack" "size" "I" ∈ wsX2_init := List.mem_of_getElem? (i := 8) rfl
set_option maxHeartbeats 4000000 in
set_option maxRecDepth 100000 in
theorem zk_X2_init (l : Launch) (D : va_G) (cI : ClassId) (h0 : Nat) : zr_Mv l yX2_init wsX2_init { frames := 1, cells := 2, slots := 18, locals := 12 } D [(cI, .int)] [.ref h0] (fun _ => True) [(h0, .inr (2, [.null, .null, .int 0, .int 0]))] (fun u => ∃ q1 q2 : Nat, u = [(h0, .inr (2, [.ref q1, .ref q2, .int (0), .int (-1)])), (q1, .inl (cI, 9, .inl (fun _ => 0))), (q2, .inl (cI, 9, .inl (fun _ => 0)))]) 2 18 := by
  refine zr_Mv.of (cc := cX2_init) (maxL := 1) (by decide +kernel) rfl (Nat.le_of_ble_eq_true rfl) ?_
  intro p e s m args below meth c A QW K hX hNA hnm hret
  refine zr_sub [0] [(0, .ref h0)] rfl ?_
  refine zr_aload_n K 0 dX2_init_0 rfl rfl ?_
  refine zr_obj K zlk_X2_init_1 zlk_X2_init_2 zlk_X2_init_3 (Nat.le_of_ble_eq_true rfl) (Nat.le_of_ble_eq_true rfl) dX2_init_1 ?_
  refine zr_aload_n K 0 dX2_init_4 rfl rfl ?_
  refine zr_bipush K dX2_init_5 (by decide : _ = (9 : Int32)) ?_
  refine zr_newi K 0 rfl (N' := 9) zlk_X2_init_4 (by decide) rfl (Nat.le_of_ble_eq_true rfl) (Nat.le_of_ble_eq_true rfl) (Nat.le_of_ble_eq_true rfl) dX2_init_7 (fun q1 => ?_)
  refine zr_ws (ws2 := [(h0, .inr (2, [.null, .null, .int 0, .int 0])), (q1, .inl (cI, 9, .inl (fun _ => 0)))]) rfl ?_
  refine zr_widen (nc2 := 1) (ns2 := 9) (Nat.le_of_ble_eq_true rfl) (Nat.le_of_ble_eq_true rfl) ?_
  refine zr_putF K hnm (ty := (.array .int)) zin_X2_init_X2 tyX2 tyX2_ok nmX2 (q0 := 0) rfl rfl 0 (by decide) rfl zlk_X2_init_5 rfl rfl (by decide +kernel) rfl rfl (Nat.le_of_ble_eq_true rfl) [(h0, .inr (2, [.ref q1, .null, .int 0, .int 0])), (q1, .inl (cI, 9, .inl (fun _ => 0)))] rfl dX2_init_9 ?_
  refine zr_aload_n K 0 dX2_init_12 rfl rfl ?_
  refine zr_bipush K dX2_init_13 (by decide : _ = (9 : Int32)) ?_
  refine zr_newi K 0 rfl (N' := 9) zlk_X2_init_4 (by decide) rfl (Nat.le_of_ble_eq_true rfl) (Nat.le_of_ble_eq_true rfl) (Nat.le_of_ble_eq_true rfl) dX2_init_15 (fun q2 => ?_)
  refine zr_ws (ws2 := [(h0, .inr (2, [.ref q1, .null, .int 0, .int 0])), (q1, .inl (cI, 9, .inl (fun _ => 0))), (q2, .inl (cI, 9, .inl (fun _ => 0)))]) rfl ?_
  refine zr_widen (nc2 := 2) (ns2 := 18) (Nat.le_of_ble_eq_true rfl) (Nat.le_of_ble_eq_true rfl) ?_
  refine zr_putF K hnm (ty := (.array .int)) zin_X2_init_X2 tyX2 tyX2_ok nmX2 (q0 := 0) rfl rfl 1 (by decide) rfl zlk_X2_init_6 rfl rfl (by decide +kernel) rfl rfl (Nat.le_of_ble_eq_true rfl) [(h0, .inr (2, [.ref q1, .ref q2, .int 0, .int 0])), (q1, .inl (cI, 9, .inl (fun _ => 0))), (q2, .inl (cI, 9, .inl (fun _ => 0)))] rfl dX2_init_17 ?_
  refine zr_aload_n K 0 dX2_init_20 rfl rfl ?_
  refine zr_iconst K dX2_init_21 (by decide : _ = (0 : Int32)) ?_
  refine zr_put K (ty := .int) zin_X2_init_X2 tyX2 tyX2_ok nmX2 (q0 := 0) rfl rfl 2 (by decide) rfl zlk_X2_init_7 rfl (by decide +kernel) rfl rfl (Nat.le_of_ble_eq_true rfl) [(h0, .inr (2, [.ref q1, .ref q2, .int (0), .int 0])), (q1, .inl (cI, 9, .inl (fun _ => 0))), (q2, .inl (cI, 9, .inl (fun _ => 0)))] rfl dX2_init_22 ?_
  refine zr_aload_n K 0 dX2_init_25 rfl rfl ?_
  refine zr_iconst K dX2_init_26 (by decide : _ = (-1 : Int32)) ?_
  refine zr_put K (ty := .int) zin_X2_init_X2 tyX2 tyX2_ok nmX2 (q0 := 0) rfl rfl 3 (by decide) rfl zlk_X2_init_8 rfl (by decide +kernel) rfl rfl (Nat.le_of_ble_eq_true rfl) [(h0, .inr (2, [.ref q1, .ref q2, .int (0), .int (-1)])), (q1, .inl (cI, 9, .inl (fun _ => 0))), (q2, .inl (cI, 9, .inl (fun _ => 0)))] rfl dX2_init_27 ?_
  exact hret _ ⟨q1, q2, rfl⟩ _ _ dX2_init_30
theorem zlk_X1_init_1 : Cond.methodLink RX1 3 objectInit ∈ wsX1_init := List.mem_of_getElem? (i := 1) rfl
theorem zlk_X1_init_2 : Cond.instanceMethod objectInit ∈ wsX1_init := List.mem_of_getElem? (i := 2) rfl
theorem zlk_X1_init_3 : Cond.code objectInit ⟨#[0xb1]⟩ 1 none ∈ wsX1_init := List.mem_of_getElem? (i := 3) rfl
theorem zlk_X1_init_4 : Cond.arrayClass .int ∈ wsX1_init := List.mem_of_getElem? (i := 4) rfl
theorem zin_X1_init_X1 : ∀ w ∈ wsX10, w ∈ wsX1_init := fun w h => List.mem_cons_of_mem _ (List.mem_append_right _ h)
theorem zlk_X1_init_5 : Cond.fieldLink RX1 9 "SolidsRolled$Letters" "signs" "[I" ∈ wsX1_init := List.mem_of_getElem? (i := 5) rfl
theorem zlk_X1_init_6 : Cond.fieldLink RX1 15 "SolidsRolled$Letters" "size" "I" ∈ wsX1_init := List.mem_of_getElem? (i := 6) rfl
set_option maxHeartbeats 4000000 in
set_option maxRecDepth 100000 in
theorem zk_X1_init (l : Launch) (D : va_G) (cI : ClassId) (h0 : Nat) : zr_Mv l yX1_init wsX1_init { frames := 1, cells := 1, slots := 72, locals := 12 } D [(cI, .int)] [.ref h0] (fun _ => True) [(h0, .inr (1, [.null, .int 0]))] (fun u => ∃ q1 : Nat, u = [(h0, .inr (1, [.ref q1, .int (0)])), (q1, .inl (cI, 72, .inl (fun _ => 0)))]) 1 72 := by
  refine zr_Mv.of (cc := cX1_init) (maxL := 1) (by decide +kernel) rfl (Nat.le_of_ble_eq_true rfl) ?_
  intro p e s m args below meth c A QW K hX hNA hnm hret
  refine zr_sub [0] [(0, .ref h0)] rfl ?_
  refine zr_aload_n K 0 dX1_init_0 rfl rfl ?_
  refine zr_obj K zlk_X1_init_1 zlk_X1_init_2 zlk_X1_init_3 (Nat.le_of_ble_eq_true rfl) (Nat.le_of_ble_eq_true rfl) dX1_init_1 ?_
  refine zr_aload_n K 0 dX1_init_4 rfl rfl ?_
  refine zr_bipush K dX1_init_5 (by decide : _ = (72 : Int32)) ?_
  refine zr_newi K 0 rfl (N' := 72) zlk_X1_init_4 (by decide) rfl (Nat.le_of_ble_eq_true rfl) (Nat.le_of_ble_eq_true rfl) (Nat.le_of_ble_eq_true rfl) dX1_init_7 (fun q1 => ?_)
  refine zr_ws (ws2 := [(h0, .inr (1, [.null, .int 0])), (q1, .inl (cI, 72, .inl (fun _ => 0)))]) rfl ?_
  refine zr_widen (nc2 := 1) (ns2 := 72) (Nat.le_of_ble_eq_true rfl) (Nat.le_of_ble_eq_true rfl) ?_
  refine zr_putF K hnm (ty := (.array .int)) zin_X1_init_X1 tyX1 tyX1_ok nmX1 (q0 := 0) rfl rfl 0 (by decide) rfl zlk_X1_init_5 rfl rfl (by decide +kernel) rfl rfl (Nat.le_of_ble_eq_true rfl) [(h0, .inr (1, [.ref q1, .int 0])), (q1, .inl (cI, 72, .inl (fun _ => 0)))] rfl dX1_init_9 ?_
  refine zr_aload_n K 0 dX1_init_12 rfl rfl ?_
  refine zr_iconst K dX1_init_13 (by decide : _ = (0 : Int32)) ?_
  refine zr_put K (ty := .int) zin_X1_init_X1 tyX1 tyX1_ok nmX1 (q0 := 0) rfl rfl 1 (by decide) rfl zlk_X1_init_6 rfl (by decide +kernel) rfl rfl (Nat.le_of_ble_eq_true rfl) [(h0, .inr (1, [.ref q1, .int (0)])), (q1, .inl (cI, 72, .inl (fun _ => 0)))] rfl dX1_init_14 ?_
  exact hret _ ⟨q1, rfl⟩ _ _ dX1_init_17
theorem zlk_X0_init_1 : Cond.methodLink RX0 3 objectInit ∈ wsX0_init := List.mem_of_getElem? (i := 1) rfl
theorem zlk_X0_init_2 : Cond.instanceMethod objectInit ∈ wsX0_init := List.mem_of_getElem? (i := 2) rfl
theorem zlk_X0_init_3 : Cond.code objectInit ⟨#[0xb1]⟩ 1 none ∈ wsX0_init := List.mem_of_getElem? (i := 3) rfl
theorem zlk_X0_init_4 : Cond.arrayClass .int ∈ wsX0_init := List.mem_of_getElem? (i := 4) rfl
theorem zin_X0_init_X0 : ∀ w ∈ wsX00, w ∈ wsX0_init := fun w h => List.mem_cons_of_mem _ (List.mem_append_right _ h)
theorem zlk_X0_init_5 : Cond.fieldLink RX0 9 "SolidsRolled$History" "states" "[I" ∈ wsX0_init := List.mem_of_getElem? (i := 5) rfl
theorem zlk_X0_init_6 : Cond.fieldLink RX0 15 "SolidsRolled$History" "prints" "[I" ∈ wsX0_init := List.mem_of_getElem? (i := 6) rfl
theorem zlk_X0_init_7 : Cond.fieldLink RX0 18 "SolidsRolled$History" "next" "I" ∈ wsX0_init := List.mem_of_getElem? (i := 7) rfl
theorem zlk_X0_init_8 : Cond.fieldLink RX0 22 "SolidsRolled$History" "size" "I" ∈ wsX0_init := List.mem_of_getElem? (i := 8) rfl
set_option maxHeartbeats 4000000 in
set_option maxRecDepth 100000 in
theorem zk_X0_init (l : Launch) (D : va_G) (cI : ClassId) (h0 : Nat) : zr_Mv l yX0_init wsX0_init { frames := 1, cells := 2, slots := 740, locals := 12 } D [(cI, .int)] [.ref h0] (fun _ => True) [(h0, .inr (0, [.null, .null, .int 0, .int 0]))] (fun u => ∃ q1 q2 : Nat, u = [(h0, .inr (0, [.ref q1, .ref q2, .int (0), .int (0)])), (q1, .inl (cI, 20, .inl (fun _ => 0))), (q2, .inl (cI, 720, .inl (fun _ => 0)))]) 2 740 := by
  refine zr_Mv.of (cc := cX0_init) (maxL := 1) (by decide +kernel) rfl (Nat.le_of_ble_eq_true rfl) ?_
  intro p e s m args below meth c A QW K hX hNA hnm hret
  refine zr_sub [0] [(0, .ref h0)] rfl ?_
  refine zr_aload_n K 0 dX0_init_0 rfl rfl ?_
  refine zr_obj K zlk_X0_init_1 zlk_X0_init_2 zlk_X0_init_3 (Nat.le_of_ble_eq_true rfl) (Nat.le_of_ble_eq_true rfl) dX0_init_1 ?_
  refine zr_aload_n K 0 dX0_init_4 rfl rfl ?_
  refine zr_bipush K dX0_init_5 (by decide : _ = (20 : Int32)) ?_
  refine zr_newi K 0 rfl (N' := 20) zlk_X0_init_4 (by decide) rfl (Nat.le_of_ble_eq_true rfl) (Nat.le_of_ble_eq_true rfl) (Nat.le_of_ble_eq_true rfl) dX0_init_7 (fun q1 => ?_)
  refine zr_ws (ws2 := [(h0, .inr (0, [.null, .null, .int 0, .int 0])), (q1, .inl (cI, 20, .inl (fun _ => 0)))]) rfl ?_
  refine zr_widen (nc2 := 1) (ns2 := 20) (Nat.le_of_ble_eq_true rfl) (Nat.le_of_ble_eq_true rfl) ?_
  refine zr_putF K hnm (ty := (.array .int)) zin_X0_init_X0 tyX0 tyX0_ok nmX0 (q0 := 0) rfl rfl 0 (by decide) rfl zlk_X0_init_5 rfl rfl (by decide +kernel) rfl rfl (Nat.le_of_ble_eq_true rfl) [(h0, .inr (0, [.ref q1, .null, .int 0, .int 0])), (q1, .inl (cI, 20, .inl (fun _ => 0)))] rfl dX0_init_9 ?_
  refine zr_aload_n K 0 dX0_init_12 rfl rfl ?_
  refine zr_sipush K dX0_init_13 (by decide : _ = (720 : Int32)) ?_
  refine zr_newi K 0 rfl (N' := 720) zlk_X0_init_4 (by decide) rfl (Nat.le_of_ble_eq_true rfl) (Nat.le_of_ble_eq_true rfl) (Nat.le_of_ble_eq_true rfl) dX0_init_16 (fun q2 => ?_)
  refine zr_ws (ws2 := [(h0, .inr (0, [.ref q1, .null, .int 0, .int 0])), (q1, .inl (cI, 20, .inl (fun _ => 0))), (q2, .inl (cI, 720, .inl (fun _ => 0)))]) rfl ?_
  refine zr_widen (nc2 := 2) (ns2 := 740) (Nat.le_of_ble_eq_true rfl) (Nat.le_of_ble_eq_true rfl) ?_
  refine zr_putF K hnm (ty := (.array .int)) zin_X0_init_X0 tyX0 tyX0_ok nmX0 (q0 := 0) rfl rfl 1 (by decide) rfl zlk_X0_init_6 rfl rfl (by decide +kernel) rfl rfl (Nat.le_of_ble_eq_true rfl) [(h0, .inr (0, [.ref q1, .ref q2, .int 0, .int 0])), (q1, .inl (cI, 20, .inl (fun _ => 0))), (q2, .inl (cI, 720, .inl (fun _ => 0)))] rfl dX0_init_18 ?_
  refine zr_aload_n K 0 dX0_init_21 rfl rfl ?_
  refine zr_iconst K dX0_init_22 (by decide : _ = (0 : Int32)) ?_
  refine zr_put K (ty := .int) zin_X0_init_X0 tyX0 tyX0_ok nmX0 (q0 := 0) rfl rfl 2 (by decide) rfl zlk_X0_init_7 rfl (by decide +kernel) rfl rfl (Nat.le_of_ble_eq_true rfl) [(h0, .inr (0, [.ref q1, .ref q2, .int (0), .int 0])), (q1, .inl (cI, 20, .inl (fun _ => 0))), (q2, .inl (cI, 720, .inl (fun _ => 0)))] rfl dX0_init_23 ?_
  refine zr_aload_n K 0 dX0_init_26 rfl rfl ?_
  refine zr_iconst K dX0_init_27 (by decide : _ = (0 : Int32)) ?_
  refine zr_put K (ty := .int) zin_X0_init_X0 tyX0 tyX0_ok nmX0 (q0 := 0) rfl rfl 3 (by decide) rfl zlk_X0_init_8 rfl (by decide +kernel) rfl rfl (Nat.le_of_ble_eq_true rfl) [(h0, .inr (0, [.ref q1, .ref q2, .int (0), .int (0)])), (q1, .inl (cI, 20, .inl (fun _ => 0))), (q2, .inl (cI, 720, .inl (fun _ => 0)))] rfl dX0_init_28 ?_
  exact hret _ ⟨q1, q2, rfl⟩ _ _ dX0_init_31
theorem zlk_X4_init_1 : Cond.methodLink RX4 3 objectInit ∈ wsX4_init := List.mem_of_getElem? (i := 1) rfl
theorem zlk_X4_init_2 : Cond.instanceMethod objectInit ∈ wsX4_init := List.mem_of_getElem? (i := 2) rfl
theorem zlk_X4_init_3 : Cond.code objectInit ⟨#[0xb1]⟩ 1 none ∈ wsX4_init := List.mem_of_getElem? (i := 3) rfl
theorem zlk_X4_init_4 : Cond.arrayClass .int ∈ wsX4_init := List.mem_of_getElem? (i := 4) rfl
theorem zin_X4_init_X4 : ∀ w ∈ wsX40, w ∈ wsX4_init := fun w h => List.mem_cons_of_mem _ (List.mem_append_right _ h)
theorem zlk_X4_init_5 : Cond.fieldLink RX4 9 "SolidsRolled$Search" "steps" "[I" ∈ wsX4_init := List.mem_of_getElem? (i := 5) rfl
theorem zlk_X4_init_6 : Cond.fieldLink RX4 15 "SolidsRolled$Search" "cameFrom" "[I" ∈ wsX4_init := List.mem_of_getElem? (i := 6) rfl
theorem zlk_X4_init_7 : Cond.fieldLink RX4 18 "SolidsRolled$Search" "cameBy" "[I" ∈ wsX4_init := List.mem_of_getElem? (i := 7) rfl
theorem zlk_X4_init_8 : Cond.fieldLink RX4 21 "SolidsRolled$Search" "queue" "[I" ∈ wsX4_init := List.mem_of_getElem? (i := 8) rfl
theorem zlk_X4_init_9 : Cond.fieldLink RX4 24 "SolidsRolled$Search" "marks" "[I" ∈ wsX4_init := List.mem_of_getElem? (i := 9) rfl
theorem zlk_X4_init_10 : Cond.fieldLink RX4 27 "SolidsRolled$Search" "now" "[I" ∈ wsX4_init := List.mem_of_getElem? (i := 10) rfl
theorem zlk_X4_init_11 : Cond.fieldLink RX4 30 "SolidsRolled$Search" "then" "[I" ∈ wsX4_init := List.mem_of_getElem? (i := 11) rfl
theorem zlk_X4_init_12 : Cond.fieldLink RX4 33 "SolidsRolled$Search" "size" "I" ∈ wsX4_init := List.mem_of_getElem? (i := 12) rfl
set_option maxHeartbeats 4000000 in
set_option maxRecDepth 100000 in
theorem zk_X4_init (l : Launch) (D : va_G) (cI : ClassId) (h0 : Nat) : zr_Mv l yX4_init wsX4_init { frames := 1, cells := 7, slots := 12096, locals := 12 } D [(cI, .int)] [.ref h0] (fun _ => True) [(h0, .inr (4, [.null, .null, .null, .null, .null, .null, .null, .int 0]))] (fun u => ∃ q1 q2 q3 q4 q5 q6 q7 : Nat, u = [(h0, .inr (4, [.ref q1, .ref q2, .ref q3, .ref q4, .ref q5, .ref q6, .ref q7, .int (0)])), (q1, .inl (cI, 1728, .inl (fun _ => 0))), (q2, .inl (cI, 1728, .inl (fun _ => 0))), (q3, .inl (cI, 1728, .inl (fun _ => 0))), (q4, .inl (cI, 1728, .inl (fun _ => 0))), (q5, .inl (cI, 1728, .inl (fun _ => 0))), (q6, .inl (cI, 1728, .inl (fun _ => 0))), (q7, .inl (cI, 1728, .inl (fun _ => 0)))]) 7 12096 := by
  refine zr_Mv.of (cc := cX4_init) (maxL := 1) (by decide +kernel) rfl (Nat.le_of_ble_eq_true rfl) ?_
  intro p e s m args below meth c A QW K hX hNA hnm hret
  refine zr_sub [0] [(0, .ref h0)] rfl ?_
  refine zr_aload_n K 0 dX4_init_0 rfl rfl ?_
  refine zr_obj K zlk_X4_init_1 zlk_X4_init_2 zlk_X4_init_3 (Nat.le_of_ble_eq_true rfl) (Nat.le_of_ble_eq_true rfl) dX4_init_1 ?_
  refine zr_aload_n K 0 dX4_init_4 rfl rfl ?_
  refine zr_sipush K dX4_init_5 (by decide : _ = (1728 : Int32)) ?_
  refine zr_newi K 0 rfl (N' := 1728) zlk_X4_init_4 (by decide) rfl (Nat.le_of_ble_eq_true rfl) (Nat.le_of_ble_eq_true rfl) (Nat.le_of_ble_eq_true rfl) dX4_init_8 (fun q1 => ?_)
  refine zr_ws (ws2 := [(h0, .inr (4, [.null, .null, .null, .null, .null, .null, .null, .int 0])), (q1, .inl (cI, 1728, .inl (fun _ => 0)))]) rfl ?_
  refine zr_widen (nc2 := 1) (ns2 := 1728) (Nat.le_of_ble_eq_true rfl) (Nat.le_of_ble_eq_true rfl) ?_
  refine zr_putF K hnm (ty := (.array .int)) zin_X4_init_X4 tyX4 tyX4_ok nmX4 (q0 := 0) rfl rfl 0 (by decide) rfl zlk_X4_init_5 rfl rfl (by decide +kernel) rfl rfl (Nat.le_of_ble_eq_true rfl) [(h0, .inr (4, [.ref q1, .null, .null, .null, .null, .null, .null, .int 0])), (q1, .inl (cI, 1728, .inl (fun _ => 0)))] rfl dX4_init_10 ?_
  refine zr_aload_n K 0 dX4_init_13 rfl rfl ?_
  refine zr_sipush K dX4_init_14 (by decide : _ = (1728 : Int32)) ?_
  refine zr_newi K 0 rfl (N' := 1728) zlk_X4_init_4 (by decide) rfl (Nat.le_of_ble_eq_true rfl) (Nat.le_of_ble_eq_true rfl) (Nat.le_of_ble_eq_true rfl) dX4_init_17 (fun q2 => ?_)
  refine zr_ws (ws2 := [(h0, .inr (4, [.ref q1, .null, .null, .null, .null, .null, .null, .int 0])), (q1, .inl (cI, 1728, .inl (fun _ => 0))), (q2, .inl (cI, 1728, .inl (fun _ => 0)))]) rfl ?_
  refine zr_widen (nc2 := 2) (ns2 := 3456) (Nat.le_of_ble_eq_true rfl) (Nat.le_of_ble_eq_true rfl) ?_
  refine zr_putF K hnm (ty := (.array .int)) zin_X4_init_X4 tyX4 tyX4_ok nmX4 (q0 := 0) rfl rfl 1 (by decide) rfl zlk_X4_init_6 rfl rfl (by decide +kernel) rfl rfl (Nat.le_of_ble_eq_true rfl) [(h0, .inr (4, [.ref q1, .ref q2, .null, .null, .null, .null, .null, .int 0])), (q1, .inl (cI, 1728, .inl (fun _ => 0))), (q2, .inl (cI, 1728, .inl (fun _ => 0)))] rfl dX4_init_19 ?_
  refine zr_aload_n K 0 dX4_init_22 rfl rfl ?_
  refine zr_sipush K dX4_init_23 (by decide : _ = (1728 : Int32)) ?_
  refine zr_newi K 0 rfl (N' := 1728) zlk_X4_init_4 (by decide) rfl (Nat.le_of_ble_eq_true rfl) (Nat.le_of_ble_eq_true rfl) (Nat.le_of_ble_eq_true rfl) dX4_init_26 (fun q3 => ?_)
  refine zr_ws (ws2 := [(h0, .inr (4, [.ref q1, .ref q2, .null, .null, .null, .null, .null, .int 0])), (q1, .inl (cI, 1728, .inl (fun _ => 0))), (q2, .inl (cI, 1728, .inl (fun _ => 0))), (q3, .inl (cI, 1728, .inl (fun _ => 0)))]) rfl ?_
  refine zr_widen (nc2 := 3) (ns2 := 5184) (Nat.le_of_ble_eq_true rfl) (Nat.le_of_ble_eq_true rfl) ?_
  refine zr_putF K hnm (ty := (.array .int)) zin_X4_init_X4 tyX4 tyX4_ok nmX4 (q0 := 0) rfl rfl 2 (by decide) rfl zlk_X4_init_7 rfl rfl (by decide +kernel) rfl rfl (Nat.le_of_ble_eq_true rfl) [(h0, .inr (4, [.ref q1, .ref q2, .ref q3, .null, .null, .null, .null, .int 0])), (q1, .inl (cI, 1728, .inl (fun _ => 0))), (q2, .inl (cI, 1728, .inl (fun _ => 0))), (q3, .inl (cI, 1728, .inl (fun _ => 0)))] rfl dX4_init_28 ?_
  refine zr_aload_n K 0 dX4_init_31 rfl rfl ?_
  refine zr_sipush K dX4_init_32 (by decide : _ = (1728 : Int32)) ?_
  refine zr_newi K 0 rfl (N' := 1728) zlk_X4_init_4 (by decide) rfl (Nat.le_of_ble_eq_true rfl) (Nat.le_of_ble_eq_true rfl) (Nat.le_of_ble_eq_true rfl) dX4_init_35 (fun q4 => ?_)
  refine zr_ws (ws2 := [(h0, .inr (4, [.ref q1, .ref q2, .ref q3, .null, .null, .null, .null, .int 0])), (q1, .inl (cI, 1728, .inl (fun _ => 0))), (q2, .inl (cI, 1728, .inl (fun _ => 0))), (q3, .inl (cI, 1728, .inl (fun _ => 0))), (q4, .inl (cI, 1728, .inl (fun _ => 0)))]) rfl ?_
  refine zr_widen (nc2 := 4) (ns2 := 6912) (Nat.le_of_ble_eq_true rfl) (Nat.le_of_ble_eq_true rfl) ?_
  refine zr_putF K hnm (ty := (.array .int)) zin_X4_init_X4 tyX4 tyX4_ok nmX4 (q0 := 0) rfl rfl 3 (by decide) rfl zlk_X4_init_8 rfl rfl (by decide +kernel) rfl rfl (Nat.le_of_ble_eq_true rfl) [(h0, .inr (4, [.ref q1, .ref q2, .ref q3, .ref q4, .null, .null, .null, .int 0])), (q1, .inl (cI, 1728, .inl (fun _ => 0))), (q2, .inl (cI, 1728, .inl (fun _ => 0))), (q3, .inl (cI, 1728, .inl (fun _ => 0))), (q4, .inl (cI, 1728, .inl (fun _ => 0)))] rfl dX4_init_37 ?_
  refine zr_aload_n K 0 dX4_init_40 rfl rfl ?_
  refine zr_sipush K dX4_init_41 (by decide : _ = (1728 : Int32)) ?_
  refine zr_newi K 0 rfl (N' := 1728) zlk_X4_init_4 (by decide) rfl (Nat.le_of_ble_eq_true rfl) (Nat.le_of_ble_eq_true rfl) (Nat.le_of_ble_eq_true rfl) dX4_init_44 (fun q5 => ?_)
  refine zr_ws (ws2 := [(h0, .inr (4, [.ref q1, .ref q2, .ref q3, .ref q4, .null, .null, .null, .int 0])), (q1, .inl (cI, 1728, .inl (fun _ => 0))), (q2, .inl (cI, 1728, .inl (fun _ => 0))), (q3, .inl (cI, 1728, .inl (fun _ => 0))), (q4, .inl (cI, 1728, .inl (fun _ => 0))), (q5, .inl (cI, 1728, .inl (fun _ => 0)))]) rfl ?_
  refine zr_widen (nc2 := 5) (ns2 := 8640) (Nat.le_of_ble_eq_true rfl) (Nat.le_of_ble_eq_true rfl) ?_
  refine zr_putF K hnm (ty := (.array .int)) zin_X4_init_X4 tyX4 tyX4_ok nmX4 (q0 := 0) rfl rfl 4 (by decide) rfl zlk_X4_init_9 rfl rfl (by decide +kernel) rfl rfl (Nat.le_of_ble_eq_true rfl) [(h0, .inr (4, [.ref q1, .ref q2, .ref q3, .ref q4, .ref q5, .null, .null, .int 0])), (q1, .inl (cI, 1728, .inl (fun _ => 0))), (q2, .inl (cI, 1728, .inl (fun _ => 0))), (q3, .inl (cI, 1728, .inl (fun _ => 0))), (q4, .inl (cI, 1728, .inl (fun _ => 0))), (q5, .inl (cI, 1728, .inl (fun _ => 0)))] rfl dX4_init_46 ?_
  refine zr_aload_n K 0 dX4_init_49 rfl rfl ?_
  refine zr_sipush K dX4_init_50 (by decide : _ = (1728 : Int32)) ?_
  refine zr_newi K 0 rfl (N' := 1728) zlk_X4_init_4 (by decide) rfl (Nat.le_of_ble_eq_true rfl) (Nat.le_of_ble_eq_true rfl) (Nat.le_of_ble_eq_true rfl) dX4_init_53 (fun q6 => ?_)
  refine zr_ws (ws2 := [(h0, .inr (4, [.ref q1, .ref q2, .ref q3, .ref q4, .ref q5, .null, .null, .int 0])), (q1, .inl (cI, 1728, .inl (fun _ => 0))), (q2, .inl (cI, 1728, .inl (fun _ => 0))), (q3, .inl (cI, 1728, .inl (fun _ => 0))), (q4, .inl (cI, 1728, .inl (fun _ => 0))), (q5, .inl (cI, 1728, .inl (fun _ => 0))), (q6, .inl (cI, 1728, .inl (fun _ => 0)))]) rfl ?_
  refine zr_widen (nc2 := 6) (ns2 := 10368) (Nat.le_of_ble_eq_true rfl) (Nat.le_of_ble_eq_true rfl) ?_
  refine zr_putF K hnm (ty := (.array .int)) zin_X4_init_X4 tyX4 tyX4_ok nmX4 (q0 := 0) rfl rfl 5 (by decide) rfl zlk_X4_init_10 rfl rfl (by decide +kernel) rfl rfl (Nat.le_of_ble_eq_true rfl) [(h0, .inr (4, [.ref q1, .ref q2, .ref q3, .ref q4, .ref q5, .ref q6, .null, .int 0])), (q1, .inl (cI, 1728, .inl (fun _ => 0))), (q2, .inl (cI, 1728, .inl (fun _ => 0))), (q3, .inl (cI, 1728, .inl (fun _ => 0))), (q4, .inl (cI, 1728, .inl (fun _ => 0))), (q5, .inl (cI, 1728, .inl (fun _ => 0))), (q6, .inl (cI, 1728, .inl (fun _ => 0)))] rfl dX4_init_55 ?_
  refine zr_aload_n K 0 dX4_init_58 rfl rfl ?_
  refine zr_sipush K dX4_init_59 (by decide : _ = (1728 : Int32)) ?_
  refine zr_newi K 0 rfl (N' := 1728) zlk_X4_init_4 (by decide) rfl (Nat.le_of_ble_eq_true rfl) (Nat.le_of_ble_eq_true rfl) (Nat.le_of_ble_eq_true rfl) dX4_init_62 (fun q7 => ?_)
  refine zr_ws (ws2 := [(h0, .inr (4, [.ref q1, .ref q2, .ref q3, .ref q4, .ref q5, .ref q6, .null, .int 0])), (q1, .inl (cI, 1728, .inl (fun _ => 0))), (q2, .inl (cI, 1728, .inl (fun _ => 0))), (q3, .inl (cI, 1728, .inl (fun _ => 0))), (q4, .inl (cI, 1728, .inl (fun _ => 0))), (q5, .inl (cI, 1728, .inl (fun _ => 0))), (q6, .inl (cI, 1728, .inl (fun _ => 0))), (q7, .inl (cI, 1728, .inl (fun _ => 0)))]) rfl ?_
  refine zr_widen (nc2 := 7) (ns2 := 12096) (Nat.le_of_ble_eq_true rfl) (Nat.le_of_ble_eq_true rfl) ?_
  refine zr_putF K hnm (ty := (.array .int)) zin_X4_init_X4 tyX4 tyX4_ok nmX4 (q0 := 0) rfl rfl 6 (by decide) rfl zlk_X4_init_11 rfl rfl (by decide +kernel) rfl rfl (Nat.le_of_ble_eq_true rfl) [(h0, .inr (4, [.ref q1, .ref q2, .ref q3, .ref q4, .ref q5, .ref q6, .ref q7, .int 0])), (q1, .inl (cI, 1728, .inl (fun _ => 0))), (q2, .inl (cI, 1728, .inl (fun _ => 0))), (q3, .inl (cI, 1728, .inl (fun _ => 0))), (q4, .inl (cI, 1728, .inl (fun _ => 0))), (q5, .inl (cI, 1728, .inl (fun _ => 0))), (q6, .inl (cI, 1728, .inl (fun _ => 0))), (q7, .inl (cI, 1728, .inl (fun _ => 0)))] rfl dX4_init_64 ?_
  refine zr_aload_n K 0 dX4_init_67 rfl rfl ?_
  refine zr_iconst K dX4_init_68 (by decide : _ = (0 : Int32)) ?_
  refine zr_put K (ty := .int) zin_X4_init_X4 tyX4 tyX4_ok nmX4 (q0 := 0) rfl rfl 7 (by decide) rfl zlk_X4_init_12 rfl (by decide +kernel) rfl rfl (Nat.le_of_ble_eq_true rfl) [(h0, .inr (4, [.ref q1, .ref q2, .ref q3, .ref q4, .ref q5, .ref q6, .ref q7, .int (0)])), (q1, .inl (cI, 1728, .inl (fun _ => 0))), (q2, .inl (cI, 1728, .inl (fun _ => 0))), (q3, .inl (cI, 1728, .inl (fun _ => 0))), (q4, .inl (cI, 1728, .inl (fun _ => 0))), (q5, .inl (cI, 1728, .inl (fun _ => 0))), (q6, .inl (cI, 1728, .inl (fun _ => 0))), (q7, .inl (cI, 1728, .inl (fun _ => 0)))] rfl dX4_init_69 ?_
  exact hret _ ⟨q1, q2, q3, q4, q5, q6, q7, rfl⟩ _ _ dX4_init_72
theorem zlk_X6_init_1 : Cond.methodLink RX6 3 objectInit ∈ wsX6_init := List.mem_of_getElem? (i := 1) rfl
theorem zlk_X6_init_2 : Cond.instanceMethod objectInit ∈ wsX6_init := List.mem_of_getElem? (i := 2) rfl
theorem zlk_X6_init_3 : Cond.code objectInit ⟨#[0xb1]⟩ 1 none ∈ wsX6_init := List.mem_of_getElem? (i := 3) rfl
theorem zin_X6_init_X6 : ∀ w ∈ wsX60, w ∈ wsX6_init := fun w h => List.mem_cons_of_mem _ (List.mem_append_right _ h)
theorem zlk_X6_init_4 : Cond.fieldLink RX6 9 "SolidsRolled$World" "cubes" "LSolidsRolled$Stances;" ∈ wsX6_init := List.mem_of_getElem? (i := 4) rfl
theorem zlk_X6_init_5 : Cond.fieldLink RX6 15 "SolidsRolled$World" "tetras" "LSolidsRolled$Stances;" ∈ wsX6_init := List.mem_of_getElem? (i := 5) rfl
theorem zlk_X6_init_6 : Cond.arrayClass .int ∈ wsX6_init := List.mem_of_getElem? (i := 6) rfl
theorem zlk_X6_init_7 : Cond.fieldLink RX6 18 "SolidsRolled$World" "tiles" "[I" ∈ wsX6_init := List.mem_of_getElem? (i := 7) rfl
theorem zlk_X6_init_8 : Cond.fieldLink RX6 22 "SolidsRolled$World" "prints" "[I" ∈ wsX6_init := List.mem_of_getElem? (i := 8) rfl
theorem zlk_X6_init_9 : Cond.fieldLink RX6 31 "SolidsRolled$World" "rows" "I" ∈ wsX6_init := List.mem_of_getElem? (i := 9) rfl
theorem zlk_X6_init_10 : Cond.fieldLink RX6 35 "SolidsRolled$World" "columns" "I" ∈ wsX6_init := List.mem_of_getElem? (i := 10) rfl
theorem zlk_X6_init_11 : Cond.fieldLink RX6 38 "SolidsRolled$World" "kind" "I" ∈ wsX6_init := List.mem_of_getElem? (i := 11) rfl
theorem zlk_X6_init_12 : Cond.fieldLink RX6 41 "SolidsRolled$World" "state" "I" ∈ wsX6_init := List.mem_of_getElem? (i := 12) rfl
theorem zlk_X6_init_13 : Cond.fieldLink RX6 44 "SolidsRolled$World" "ink" "I" ∈ wsX6_init := List.mem_of_getElem? (i := 13) rfl
set_option maxHeartbeats 4000000 in
set_option maxRecDepth 100000 in
theorem zk_X6_init (l : Launch) (D : va_G) (cI : ClassId) (h0 a1 a2 : Nat) : zr_Mv l yX6_init wsX6_init { frames := 1, cells := 2, slots := 72, locals := 23 } D [(cI, .int)] [.ref h0, .ref a1, .ref a2] (fun _ => True) [(h0, .inr (6, [.null, .null, .null, .null, .int 0, .int 0, .int 0, .int 0, .int 0]))] (fun u => ∃ (q1 q2 : Nat) (f3 : Nat → Int32), (∀ k, k < 36 → f3 k = -1) ∧ u = [(h0, .inr (6, [.ref a1, .ref a2, .ref q1, .ref q2, .int (4), .int (4), .int (0), .int (0), .int (1)])), (q1, .inl (cI, 36, .inl (fun _ => 0))), (q2, .inl (cI, 36, .inl f3))]) 2 72 := by
  refine zr_Mv.of (cc := cX6_init) (maxL := 3) (by decide +kernel) rfl (Nat.le_of_ble_eq_true rfl) ?_
  intro p e s m args below meth c A QW K hX hNA hnm hret
  refine zr_sub [0, 1, 2] [(0, .ref h0), (1, .ref a1), (2, .ref a2)] rfl ?_
  refine zr_aload_n K 0 dX6_init_0 rfl rfl ?_
  refine zr_obj K zlk_X6_init_1 zlk_X6_init_2 zlk_X6_init_3 (Nat.le_of_ble_eq_true rfl) (Nat.le_of_ble_eq_true rfl) dX6_init_1 ?_
  refine zr_aload_n K 0 dX6_init_4 rfl rfl ?_
  refine zr_aload_n K 1 dX6_init_5 rfl rfl ?_
  refine zr_putF K hnm (ty := .object "SolidsRolled$Stances") zin_X6_init_X6 tyX6 tyX6_ok nmX6 (q0 := 0) rfl rfl 0 (by decide) rfl zlk_X6_init_4 rfl rfl (by decide +kernel) rfl rfl (Nat.le_of_ble_eq_true rfl) [(h0, .inr (6, [.ref a1, .null, .null, .null, .int 0, .int 0, .int 0, .int 0, .int 0]))] rfl dX6_init_6 ?_
  refine zr_aload_n K 0 dX6_init_9 rfl rfl ?_
  refine zr_aload_n K 2 dX6_init_10 rfl rfl ?_
  refine zr_putF K hnm (ty := .object "SolidsRolled$Stances") zin_X6_init_X6 tyX6 tyX6_ok nmX6 (q0 := 0) rfl rfl 1 (by decide) rfl zlk_X6_init_5 rfl rfl (by decide +kernel) rfl rfl (Nat.le_of_ble_eq_true rfl) [(h0, .inr (6, [.ref a1, .ref a2, .null, .null, .int 0, .int 0, .int 0, .int 0, .int 0]))] rfl dX6_init_11 ?_
  refine zr_aload_n K 0 dX6_init_14 rfl rfl ?_
  refine zr_bipush K dX6_init_15 (by decide : _ = (36 : Int32)) ?_
  refine zr_newi K 0 rfl (N' := 36) zlk_X6_init_6 (by decide) rfl (Nat.le_of_ble_eq_true rfl) (Nat.le_of_ble_eq_true rfl) (Nat.le_of_ble_eq_true rfl) dX6_init_17 (fun q1 => ?_)
  refine zr_ws (ws2 := [(h0, .inr (6, [.ref a1, .ref a2, .null, .null, .int 0, .int 0, .int 0, .int 0, .int 0])), (q1, .inl (cI, 36, .inl (fun _ => 0)))]) rfl ?_
  refine zr_widen (nc2 := 1) (ns2 := 36) (Nat.le_of_ble_eq_true rfl) (Nat.le_of_ble_eq_true rfl) ?_
  refine zr_putF K hnm (ty := (.array .int)) zin_X6_init_X6 tyX6 tyX6_ok nmX6 (q0 := 0) rfl rfl 2 (by decide) rfl zlk_X6_init_7 rfl rfl (by decide +kernel) rfl rfl (Nat.le_of_ble_eq_true rfl) [(h0, .inr (6, [.ref a1, .ref a2, .ref q1, .null, .int 0, .int 0, .int 0, .int 0, .int 0])), (q1, .inl (cI, 36, .inl (fun _ => 0)))] rfl dX6_init_19 ?_
  refine zr_aload_n K 0 dX6_init_22 rfl rfl ?_
  refine zr_bipush K dX6_init_23 (by decide : _ = (36 : Int32)) ?_
  refine zr_newi K 0 rfl (N' := 36) zlk_X6_init_6 (by decide) rfl (Nat.le_of_ble_eq_true rfl) (Nat.le_of_ble_eq_true rfl) (Nat.le_of_ble_eq_true rfl) dX6_init_25 (fun q2 => ?_)
  refine zr_ws (ws2 := [(h0, .inr (6, [.ref a1, .ref a2, .ref q1, .null, .int 0, .int 0, .int 0, .int 0, .int 0])), (q1, .inl (cI, 36, .inl (fun _ => 0))), (q2, .inl (cI, 36, .inl (fun _ => 0)))]) rfl ?_
  refine zr_widen (nc2 := 2) (ns2 := 72) (Nat.le_of_ble_eq_true rfl) (Nat.le_of_ble_eq_true rfl) ?_
  refine zr_putF K hnm (ty := (.array .int)) zin_X6_init_X6 tyX6 tyX6_ok nmX6 (q0 := 0) rfl rfl 3 (by decide) rfl zlk_X6_init_8 rfl rfl (by decide +kernel) rfl rfl (Nat.le_of_ble_eq_true rfl) [(h0, .inr (6, [.ref a1, .ref a2, .ref q1, .ref q2, .int 0, .int 0, .int 0, .int 0, .int 0])), (q1, .inl (cI, 36, .inl (fun _ => 0))), (q2, .inl (cI, 36, .inl (fun _ => 0)))] rfl dX6_init_27 ?_
  refine zr_aload_n K 0 dX6_init_30 rfl rfl ?_
  refine zr_get K zin_X6_init_X6 (q0 := 0) rfl rfl 3 (by decide) rfl zlk_X6_init_8 rfl dX6_init_31 ?_
  refine zr_iconst K dX6_init_34 (by decide : _ = (-1 : Int32)) ?_
  refine zr_fill K (q0 := 2) 0 rfl rfl (by decide) gX6_init_J7_fill_53178 (Nat.le_of_ble_eq_true rfl) (Nat.le_of_ble_eq_true rfl) ⟨(Nat.le_of_ble_eq_true rfl), (Nat.le_of_ble_eq_true rfl)⟩ (Nat.le_of_ble_eq_true rfl) dX6_init_35 (fun f3 hf3 => ?_)
  refine zr_ws (ws2 := [(h0, .inr (6, [.ref a1, .ref a2, .ref q1, .ref q2, .int 0, .int 0, .int 0, .int 0, .int 0])), (q1, .inl (cI, 36, .inl (fun _ => 0))), (q2, .inl (cI, 36, .inl f3))]) rfl ?_
  refine zr_aload_n K 0 dX6_init_38 rfl rfl ?_
  refine zr_iconst K dX6_init_39 (by decide : _ = (4 : Int32)) ?_
  refine zr_put K (ty := .int) zin_X6_init_X6 tyX6 tyX6_ok nmX6 (q0 := 0) rfl rfl 4 (by decide) rfl zlk_X6_init_9 rfl (by decide +kernel) rfl rfl (Nat.le_of_ble_eq_true rfl) [(h0, .inr (6, [.ref a1, .ref a2, .ref q1, .ref q2, .int (4), .int 0, .int 0, .int 0, .int 0])), (q1, .inl (cI, 36, .inl (fun _ => 0))), (q2, .inl (cI, 36, .inl f3))] rfl dX6_init_40 ?_
  refine zr_aload_n K 0 dX6_init_43 rfl rfl ?_
  refine zr_iconst K dX6_init_44 (by decide : _ = (4 : Int32)) ?_
  refine zr_put K (ty := .int) zin_X6_init_X6 tyX6 tyX6_ok nmX6 (q0 := 0) rfl rfl 5 (by decide) rfl zlk_X6_init_10 rfl (by decide +kernel) rfl rfl (Nat.le_of_ble_eq_true rfl) [(h0, .inr (6, [.ref a1, .ref a2, .ref q1, .ref q2, .int (4), .int (4), .int 0, .int 0, .int 0])), (q1, .inl (cI, 36, .inl (fun _ => 0))), (q2, .inl (cI, 36, .inl f3))] rfl dX6_init_45 ?_
  refine zr_aload_n K 0 dX6_init_48 rfl rfl ?_
  refine zr_iconst K dX6_init_49 (by decide : _ = (0 : Int32)) ?_
  refine zr_put K (ty := .int) zin_X6_init_X6 tyX6 tyX6_ok nmX6 (q0 := 0) rfl rfl 6 (by decide) rfl zlk_X6_init_11 rfl (by decide +kernel) rfl rfl (Nat.le_of_ble_eq_true rfl) [(h0, .inr (6, [.ref a1, .ref a2, .ref q1, .ref q2, .int (4), .int (4), .int (0), .int 0, .int 0])), (q1, .inl (cI, 36, .inl (fun _ => 0))), (q2, .inl (cI, 36, .inl f3))] rfl dX6_init_50 ?_
  refine zr_aload_n K 0 dX6_init_53 rfl rfl ?_
  refine zr_iconst K dX6_init_54 (by decide : _ = (0 : Int32)) ?_
  refine zr_put K (ty := .int) zin_X6_init_X6 tyX6 tyX6_ok nmX6 (q0 := 0) rfl rfl 7 (by decide) rfl zlk_X6_init_12 rfl (by decide +kernel) rfl rfl (Nat.le_of_ble_eq_true rfl) [(h0, .inr (6, [.ref a1, .ref a2, .ref q1, .ref q2, .int (4), .int (4), .int (0), .int (0), .int 0])), (q1, .inl (cI, 36, .inl (fun _ => 0))), (q2, .inl (cI, 36, .inl f3))] rfl dX6_init_55 ?_
  refine zr_aload_n K 0 dX6_init_58 rfl rfl ?_
  refine zr_iconst K dX6_init_59 (by decide : _ = (1 : Int32)) ?_
  refine zr_put K (ty := .int) zin_X6_init_X6 tyX6 tyX6_ok nmX6 (q0 := 0) rfl rfl 8 (by decide) rfl zlk_X6_init_13 rfl (by decide +kernel) rfl rfl (Nat.le_of_ble_eq_true rfl) [(h0, .inr (6, [.ref a1, .ref a2, .ref q1, .ref q2, .int (4), .int (4), .int (0), .int (0), .int (1)])), (q1, .inl (cI, 36, .inl (fun _ => 0))), (q2, .inl (cI, 36, .inl f3))] rfl dX6_init_60 ?_
  exact hret _ ⟨q1, q2, f3, hf3, rfl⟩ _ _ dX6_init_63
