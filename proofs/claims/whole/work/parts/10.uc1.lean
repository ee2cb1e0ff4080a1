theorem zcCi_0 : Int32.ofInt (0) = (0 : Int32) := by decide
theorem zin_X0_forget_X0 : ∀ w ∈ wsX00, w ∈ wsX0_forget := fun w h => List.mem_cons_of_mem _ (List.mem_append_right _ h)
theorem zlk_X0_forget_1 : Cond.fieldLink RX0 22 "SolidsRolled$History" "size" "I" ∈ wsX0_forget := List.mem_of_getElem? (i := 1) rfl
abbrev zrm0_forget : Room := { frames := 0, cells := 0, slots := 0, locals := 0 }
set_option maxHeartbeats 4000000 in
set_option maxRecDepth 100000 in
theorem zu0_forget_0 {p : Program} {l : Launch} {e : Env} {s : State} {m : MethodId} {args : Array Value} {below : List Frame} {meth : Method} {c : Code} {Q : State → Prop} {D : va_G} {A : Nat → Prop} {ad : Nat → Nat} {cy : Nat → ClassId}  {σ : zz_St} (K : zz_K p s m args c cX0_forget 1 RX0 wsX0_forget D (tysC cy) A (wC ad cy) nwC) {Qp : zz_St → Prop} (hret : ∀ (σ2 : zz_St), Qp σ2 → ∀ (pc : Nat) (lv : List (Nat × Value)), decode cX0_forget pc = .ok (.return_, 1) → zz_G p l e zrm0_forget s m args below meth c Q D A (wC ad cy) 1 pc lv [] σ2) (h : zq0_forget σ Qp) : zz_G p l e zrm0_forget s m args below meth c Q D A (wC ad cy) 1 0 [(0, .ref (ad 5))] [] σ := by
  unfold zq0_forget at h
  refine zz_aload_n K 0 dX0_forget_0 rfl rfl ?_
  refine zz_iconst K dX0_forget_1 zcCi_0 ?_
  refine zp0_3_0 K zin_X0_forget_X0 zlk_X0_forget_1 dX0_forget_2 ?_
  refine zz_nms (fun g2 eg2 => ?_)
  have h := h g2 eg2
  exact hret _ h _ _ dX0_forget_5
set_option maxRecDepth 100000 in
theorem zc0_forget (l : Launch) (D : va_G) (ad : Nat → Nat) (cy : Nat → ClassId)  (σ : zz_St) (Qp : zz_St → Prop) (h : zq0_forget σ Qp) : zz_Mv l yX0_forget wsX0_forget zrm0_forget D (tysC cy) (wC ad cy) nwC [.ref (ad 5)] σ Qp :=
  zz_Mv.of zz_nwC (wC_ad ad cy) (by decide +kernel) rfl ⟨rfl, rfl⟩ (Nat.le_of_ble_eq_true rfl) (fun p e s m args below meth c A QW K hret => zu0_forget_0 K  hret h)
theorem zin_X0_keep_X0 : ∀ w ∈ wsX00, w ∈ wsX0_keep := fun w h => List.mem_cons_of_mem _ (List.mem_append_left _ (List.mem_append_right _ h))
theorem zlk_X0_keep_1 : Cond.fieldLink RX0 9 "SolidsRolled$History" "states" "[I" ∈ wsX0_keep := List.mem_of_getElem? (i := 1) rfl
theorem zlk_X0_keep_2 : Cond.fieldLink RX0 18 "SolidsRolled$History" "next" "I" ∈ wsX0_keep := List.mem_of_getElem? (i := 2) rfl
theorem zin_X0_keep_X6 : ∀ w ∈ wsX60, w ∈ wsX0_keep := fun w h => List.mem_cons_of_mem _ (List.mem_append_right _ h)
theorem zlk_X0_keep_3 : Cond.fieldLink RX0 25 "SolidsRolled$World" "state" "I" ∈ wsX0_keep := List.mem_of_getElem? (i := 3) rfl
theorem zlk_X0_keep_4 : Cond.fieldLink RX0 30 "SolidsRolled$World" "prints" "[I" ∈ wsX0_keep := List.mem_of_getElem? (i := 4) rfl
theorem zlk_X0_keep_5 : Cond.fieldLink RX0 15 "SolidsRolled$History" "prints" "[I" ∈ wsX0_keep := List.mem_of_getElem? (i := 5) rfl
theorem zcCb_36 : (Int8.ofInt (36)).toInt32 = (36 : Int32) := by decide
theorem zlk_X0_keep_6 : Cond.methodLink RX0 31 arraycopyName ∈ wsX0_keep := List.mem_of_getElem? (i := 6) rfl
theorem zlk_X0_keep_7 : Cond.native arraycopyName ∈ wsX0_keep := List.mem_of_getElem? (i := 7) rfl
theorem zlk_X0_keep_8 : Cond.static arraycopyName ∈ wsX0_keep := List.mem_of_getElem? (i := 8) rfl
theorem zlk_X0_keep_9 : Cond.initialized "java/lang/System" ∈ wsX0_keep := List.mem_of_getElem? (i := 9) rfl
theorem zcCi_1 : Int32.ofInt (1) = (1 : Int32) := by decide
theorem zcCb_20 : (Int8.ofInt (20)).toInt32 = (20 : Int32) := by decide
theorem zlk_X0_keep_10 : Cond.fieldLink RX0 22 "SolidsRolled$History" "size" "I" ∈ wsX0_keep := List.mem_of_getElem? (i := 10) rfl
theorem zlk_X0_keep_11 : Cond.methodLink RX0 37 Lib.Math.min.name ∈ wsX0_keep := List.mem_of_getElem? (i := 11) rfl
theorem zlk_X0_keep_12 : Cond.static Lib.Math.min.name ∈ wsX0_keep := List.mem_of_getElem? (i := 12) rfl
theorem zlk_X0_keep_13 : Cond.initialized "java/lang/Math" ∈ wsX0_keep := List.mem_of_getElem? (i := 13) rfl
theorem zlk_X0_keep_14 : Cond.code Lib.Math.min.name Lib.Math.min.code 2 (some .int) ∈ wsX0_keep := List.mem_of_getElem? (i := 14) rfl
abbrev zrm0_keep : Room := { frames := 1, cells := 0, slots := 0, locals := 40 }
set_option maxHeartbeats 4000000 in
set_option maxRecDepth 100000 in
theorem zu0_keep_0 {p : Program} {l : Launch} {e : Env} {s : State} {m : MethodId} {args : Array Value} {below : List Frame} {meth : Method} {c : Code} {Q : State → Prop} {D : va_G} {A : Nat → Prop} {ad : Nat → Nat} {cy : Nat → ClassId}  {σ : zz_St} (K : zz_K p s m args c cX0_keep 2 RX0 wsX0_keep D (tysC cy) A (wC ad cy) nwC) {Qp : zz_St → Prop} (hret : ∀ (σ2 : zz_St), Qp σ2 → ∀ (pc : Nat) (lv : List (Nat × Value)), decode cX0_keep pc = .ok (.return_, 1) → zz_G p l e zrm0_keep s m args below meth c Q D A (wC ad cy) 2 pc lv [] σ2) (h : zq0_keep σ Qp) : zz_G p l e zrm0_keep s m args below meth c Q D A (wC ad cy) 2 0 [(0, .ref (ad 5)), (1, .ref (ad 1))] [] σ := by
  unfold zq0_keep at h
  refine zz_aload_n K 0 dX0_keep_0 rfl rfl ?_
  refine zg0_0_0 K zin_X0_keep_X0 zlk_X0_keep_1 dX0_keep_1 ?_
  refine zz_aload_n K 0 dX0_keep_4 rfl rfl ?_
  refine zg0_2_0 K zin_X0_keep_X0 zlk_X0_keep_2 dX0_keep_5 ?_
  refine zz_aload_n K 1 dX0_keep_8 rfl rfl ?_
  refine zg6_7_0 K zin_X0_keep_X6 zlk_X0_keep_3 dX0_keep_9 ?_
  obtain ⟨hin, h⟩ := h
  refine zz_iastore K 0 (σ2 := zz_A σ 26 (upd ((σ).2.1 26) ((σ).1 14).toNatClampNeg ((σ).1 8))) (wC_at_26 ad cy σ) (wC_set_26 ad cy σ _) rfl hin dX0_keep_12 ?_
  refine zz_nms (fun g5 eg5 => ?_)
  have h := h g5 eg5
  refine zz_aload_n K 1 dX0_keep_13 rfl rfl ?_
  refine zg6_3_0 K zin_X0_keep_X6 zlk_X0_keep_4 dX0_keep_14 ?_
  refine zz_iconst K dX0_keep_17 zcCi_0 ?_
  refine zz_aload_n K 0 dX0_keep_18 rfl rfl ?_
  refine zg0_1_0 K zin_X0_keep_X0 zlk_X0_keep_5 dX0_keep_19 ?_
  refine zz_aload_n K 0 dX0_keep_22 rfl rfl ?_
  refine zg0_2_0 K zin_X0_keep_X0 zlk_X0_keep_2 dX0_keep_23 ?_
  refine zz_bipush K dX0_keep_26 zcCb_36 ?_
  refine zz_imul K dX0_keep_28 ?_
  refine zz_bipush K dX0_keep_29 zcCb_36 ?_
  obtain ⟨q1, q2, q3, q4, q5, h⟩ := h
  refine zz_copy K (σ2 := zz_A g5 27 (va_cpy (g5.2.1 16) (g5.2.1 27) (0 : Int32).toNatClampNeg ((g5.1 14) * (36 : Int32)).toNatClampNeg (36 : Int32).toNatClampNeg)) 0 0 zlk_X0_keep_6 zlk_X0_keep_7 zlk_X0_keep_8 zlk_X0_keep_9 (wC_at_16 ad cy g5) (wC_at_27 ad cy g5) (wC_set_27 ad cy g5 _) rfl rfl q1 q2 q3 q4 q5 (Nat.le_of_ble_eq_true rfl) (Nat.le_of_ble_eq_true rfl) dX0_keep_31 ?_
  refine zz_nms (fun g6 eg6 => ?_)
  have h := h g6 eg6
  refine zz_aload_n K 0 dX0_keep_34 rfl rfl ?_
  refine zz_aload_n K 0 dX0_keep_35 rfl rfl ?_
  refine zg0_2_0 K zin_X0_keep_X0 zlk_X0_keep_2 dX0_keep_36 ?_
  refine zz_iconst K dX0_keep_39 zcCi_1 ?_
  refine zz_iadd K dX0_keep_40 ?_
  refine zz_bipush K dX0_keep_41 zcCb_20 ?_
  refine zz_irem K (by decide : ¬ (20 : Int32) = 0) dX0_keep_43 ?_
  refine zp0_2_0 K zin_X0_keep_X0 zlk_X0_keep_2 dX0_keep_44 ?_
  refine zz_nms (fun g7 eg7 => ?_)
  have h := h g7 eg7
  refine zz_aload_n K 0 dX0_keep_47 rfl rfl ?_
  refine zz_aload_n K 0 dX0_keep_48 rfl rfl ?_
  refine zg0_3_0 K zin_X0_keep_X0 zlk_X0_keep_10 dX0_keep_49 ?_
  refine zz_iconst K dX0_keep_52 zcCi_1 ?_
  refine zz_iadd K dX0_keep_53 ?_
  refine zz_bipush K dX0_keep_54 zcCb_20 ?_
  refine zz_min K zlk_X0_keep_11 zlk_X0_keep_12 zlk_X0_keep_13 zlk_X0_keep_14 (Nat.le_of_ble_eq_true rfl) (Nat.le_of_ble_eq_true rfl) dX0_keep_56 ?_
  refine zp0_3_0 K zin_X0_keep_X0 zlk_X0_keep_10 dX0_keep_59 ?_
  refine zz_nms (fun g8 eg8 => ?_)
  have h := h g8 eg8
  exact hret _ h _ _ dX0_keep_62
set_option maxRecDepth 100000 in
theorem zc0_keep (l : Launch) (D : va_G) (ad : Nat → Nat) (cy : Nat → ClassId)  (σ : zz_St) (Qp : zz_St → Prop) (h : zq0_keep σ Qp) : zz_Mv l yX0_keep wsX0_keep zrm0_keep D (tysC cy) (wC ad cy) nwC [.ref (ad 5), .ref (ad 1)] σ Qp :=
  zz_Mv.of zz_nwC (wC_ad ad cy) (by decide +kernel) rfl ⟨rfl, rfl⟩ (Nat.le_of_ble_eq_true rfl) (fun p e s m args below meth c A QW K hret => zu0_keep_0 K  hret h)
theorem zin_X0_bringBack_X0 : ∀ w ∈ wsX00, w ∈ wsX0_bringBack := fun w h => List.mem_cons_of_mem _ (List.mem_append_left _ (List.mem_append_right _ h))
theorem zlk_X0_bringBack_1 : Cond.fieldLink RX0 18 "SolidsRolled$History" "next" "I" ∈ wsX0_bringBack := List.mem_of_getElem? (i := 1) rfl
theorem zlk_X0_bringBack_2 : Cond.fieldLink RX0 9 "SolidsRolled$History" "states" "[I" ∈ wsX0_bringBack := List.mem_of_getElem? (i := 2) rfl
theorem zin_X0_bringBack_X6 : ∀ w ∈ wsX60, w ∈ wsX0_bringBack := fun w h => List.mem_cons_of_mem _ (List.mem_append_right _ h)
theorem zlk_X0_bringBack_3 : Cond.fieldLink RX0 25 "SolidsRolled$World" "state" "I" ∈ wsX0_bringBack := List.mem_of_getElem? (i := 3) rfl
theorem zlk_X0_bringBack_4 : Cond.fieldLink RX0 15 "SolidsRolled$History" "prints" "[I" ∈ wsX0_bringBack := List.mem_of_getElem? (i := 4) rfl
theorem zlk_X0_bringBack_5 : Cond.fieldLink RX0 30 "SolidsRolled$World" "prints" "[I" ∈ wsX0_bringBack := List.mem_of_getElem? (i := 5) rfl
theorem zlk_X0_bringBack_6 : Cond.methodLink RX0 31 arraycopyName ∈ wsX0_bringBack := List.mem_of_getElem? (i := 6) rfl
theorem zlk_X0_bringBack_7 : Cond.native arraycopyName ∈ wsX0_bringBack := List.mem_of_getElem? (i := 7) rfl
theorem zlk_X0_bringBack_8 : Cond.static arraycopyName ∈ wsX0_bringBack := List.mem_of_getElem? (i := 8) rfl
theorem zlk_X0_bringBack_9 : Cond.initialized "java/lang/System" ∈ wsX0_bringBack := List.mem_of_getElem? (i := 9) rfl
theorem zlk_X0_bringBack_10 : Cond.fieldLink RX0 22 "SolidsRolled$History" "size" "I" ∈ wsX0_bringBack := List.mem_of_getElem? (i := 10) rfl
abbrev zrm0_bringBack : Room := { frames := 1, cells := 0, slots := 0, locals := 40 }
set_option maxHeartbeats 4000000 in
set_option maxRecDepth 100000 in
theorem zu0_bringBack_0 {p : Program} {l : Launch} {e : Env} {s : State} {m : MethodId} {args : Array Value} {below : List Frame} {meth : Method} {c : Code} {Q : State → Prop} {D : va_G} {A : Nat → Prop} {ad : Nat → Nat} {cy : Nat → ClassId}  {σ : zz_St} (K : zz_K p s m args c cX0_bringBack 2 RX0 wsX0_bringBack D (tysC cy) A (wC ad cy) nwC) {Qp : zz_St → Prop} (hret : ∀ (σ2 : zz_St), Qp σ2 → ∀ (pc : Nat) (lv : List (Nat × Value)), decode cX0_bringBack pc = .ok (.return_, 1) → zz_G p l e zrm0_bringBack s m args below meth c Q D A (wC ad cy) 2 pc lv [] σ2) (h : zq0_bringBack σ Qp) : zz_G p l e zrm0_bringBack s m args below meth c Q D A (wC ad cy) 2 0 [(0, .ref (ad 5)), (1, .ref (ad 1))] [] σ := by
  unfold zq0_bringBack at h
  refine zz_aload_n K 0 dX0_bringBack_0 rfl rfl ?_
  refine zz_aload_n K 0 dX0_bringBack_1 rfl rfl ?_
  refine zg0_2_0 K zin_X0_bringBack_X0 zlk_X0_bringBack_1 dX0_bringBack_2 ?_
  refine zz_bipush K dX0_bringBack_5 zcCb_20 ?_
  refine zz_iadd K dX0_bringBack_7 ?_
  refine zz_iconst K dX0_bringBack_8 zcCi_1 ?_
  refine zz_isub K dX0_bringBack_9 ?_
  refine zz_bipush K dX0_bringBack_10 zcCb_20 ?_
  refine zz_irem K (by decide : ¬ (20 : Int32) = 0) dX0_bringBack_12 ?_
  refine zp0_2_0 K zin_X0_bringBack_X0 zlk_X0_bringBack_1 dX0_bringBack_13 ?_
  refine zz_nms (fun g5 eg5 => ?_)
  have h := h g5 eg5
  refine zz_aload_n K 1 dX0_bringBack_16 rfl rfl ?_
  refine zz_aload_n K 0 dX0_bringBack_17 rfl rfl ?_
  refine zg0_0_0 K zin_X0_bringBack_X0 zlk_X0_bringBack_2 dX0_bringBack_18 ?_
  refine zz_aload_n K 0 dX0_bringBack_21 rfl rfl ?_
  refine zg0_2_0 K zin_X0_bringBack_X0 zlk_X0_bringBack_1 dX0_bringBack_22 ?_
  obtain ⟨hin, h⟩ := h
  refine zz_iaload K 0 (wC_at_26 ad cy g5) rfl hin dX0_bringBack_25 ?_
  refine zp6_7_0 K zin_X0_bringBack_X6 zlk_X0_bringBack_3 dX0_bringBack_26 ?_
  refine zz_nms (fun g6 eg6 => ?_)
  have h := h g6 eg6
  refine zz_aload_n K 0 dX0_bringBack_29 rfl rfl ?_
  refine zg0_1_0 K zin_X0_bringBack_X0 zlk_X0_bringBack_4 dX0_bringBack_30 ?_
  refine zz_aload_n K 0 dX0_bringBack_33 rfl rfl ?_
  refine zg0_2_0 K zin_X0_bringBack_X0 zlk_X0_bringBack_1 dX0_bringBack_34 ?_
  refine zz_bipush K dX0_bringBack_37 zcCb_36 ?_
  refine zz_imul K dX0_bringBack_39 ?_
  refine zz_aload_n K 1 dX0_bringBack_40 rfl rfl ?_
  refine zg6_3_0 K zin_X0_bringBack_X6 zlk_X0_bringBack_5 dX0_bringBack_41 ?_
  refine zz_iconst K dX0_bringBack_44 zcCi_0 ?_
  refine zz_bipush K dX0_bringBack_45 zcCb_36 ?_
  obtain ⟨q1, q2, q3, q4, q5, h⟩ := h
  refine zz_copy K (σ2 := zz_A g6 16 (va_cpy (g6.2.1 27) (g6.2.1 16) ((g6.1 14) * (36 : Int32)).toNatClampNeg (0 : Int32).toNatClampNeg (36 : Int32).toNatClampNeg)) 0 0 zlk_X0_bringBack_6 zlk_X0_bringBack_7 zlk_X0_bringBack_8 zlk_X0_bringBack_9 (wC_at_27 ad cy g6) (wC_at_16 ad cy g6) (wC_set_16 ad cy g6 _) rfl rfl q1 q2 q3 q4 q5 (Nat.le_of_ble_eq_true rfl) (Nat.le_of_ble_eq_true rfl) dX0_bringBack_47 ?_
  refine zz_nms (fun g7 eg7 => ?_)
  have h := h g7 eg7
  refine zz_aload_n K 0 dX0_bringBack_50 rfl rfl ?_
  refine zz_dup K rfl dX0_bringBack_51 ?_
  refine zg0_3_0 K zin_X0_bringBack_X0 zlk_X0_bringBack_10 dX0_bringBack_52 ?_
  refine zz_iconst K dX0_bringBack_55 zcCi_1 ?_
  refine zz_isub K dX0_bringBack_56 ?_
  refine zp0_3_0 K zin_X0_bringBack_X0 zlk_X0_bringBack_10 dX0_bringBack_57 ?_
  refine zz_nms (fun g8 eg8 => ?_)
  have h := h g8 eg8
  exact hret _ h _ _ dX0_bringBack_60
set_option maxRecDepth 100000 in
theorem zc0_bringBack (l : Launch) (D : va_G) (ad : Nat → Nat) (cy : Nat → ClassId)  (σ : zz_St) (Qp : zz_St → Prop) (h : zq0_bringBack σ Qp) : zz_Mv l yX0_bringBack wsX0_bringBack zrm0_bringBack D (tysC cy) (wC ad cy) nwC [.ref (ad 5), .ref (ad 1)] σ Qp :=
  zz_Mv.of zz_nwC (wC_ad ad cy) (by decide +kernel) rfl ⟨rfl, rfl⟩ (Nat.le_of_ble_eq_true rfl) (fun p e s m args below meth c A QW K hret => zu0_bringBack_0 K  hret h)
theorem zin_X1_isFull_X1 : ∀ w ∈ wsX10, w ∈ wsX1_isFull := fun w h => List.mem_cons_of_mem _ (List.mem_append_right _ h)
theorem zlk_X1_isFull_1 : Cond.fieldLink RX1 15 "SolidsRolled$Letters" "size" "I" ∈ wsX1_isFull := List.mem_of_getElem? (i := 1) rfl
theorem zcCb_72 : (Int8.ofInt (72)).toInt32 = (72 : Int32) := by decide
abbrev zrm1_isFull : Room := { frames := 0, cells := 0, slots := 0, locals := 0 }
set_option maxHeartbeats 4000000 in
set_option maxRecDepth 100000 in
theorem zu1_isFull_0 {p : Program} {l : Launch} {e : Env} {s : State} {m : MethodId} {args : Array Value} {below : List Frame} {meth : Method} {c : Code} {Q : State → Prop} {D : va_G} {A : Nat → Prop} {ad : Nat → Nat} {cy : Nat → ClassId}  {σ : zz_St} (K : zz_K p s m args c cX1_isFull 1 RX1 wsX1_isFull D (tysC cy) A (wC ad cy) nwC) {Qp : Int32 → Prop} (hret : ∀ (r : Int32), narrow .boolean (.int r) = .int r → Qp r → ∀ (pc : Nat) (lv : List (Nat × Value)), decode cX1_isFull pc = .ok (.ireturn, 1) → zz_G p l e zrm1_isFull s m args below meth c Q D A (wC ad cy) 1 pc lv [.int r] σ) (h : zq1_isFull σ Qp) : zz_G p l e zrm1_isFull s m args below meth c Q D A (wC ad cy) 1 0 [(0, .ref (ad 3))] [] σ := by
  unfold zq1_isFull at h
  refine zz_aload_n K 0 dX1_isFull_0 rfl rfl ?_
  refine zg1_1_0 K zin_X1_isFull_X1 zlk_X1_isFull_1 dX1_isFull_1 ?_
  refine zz_bipush K dX1_isFull_4 zcCb_72 ?_
  refine zz_icmp_lt K 13 dX1_isFull_6 rfl (fun c2 => ?_) (fun c2 => ?_)
  · have h := (And.left h) c2
    refine zz_iconst K dX1_isFull_13 zcCi_0 ?_
    exact hret _ rfl h _ _ dX1_isFull_14
  · have h := (And.right h) c2
    refine zz_iconst K dX1_isFull_9 zcCi_1 ?_
    refine zz_goto K 14 dX1_isFull_10 rfl ?_
    exact hret _ rfl h _ _ dX1_isFull_14
set_option maxRecDepth 100000 in
theorem zc1_isFull (l : Launch) (D : va_G) (ad : Nat → Nat) (cy : Nat → ClassId)  (σ : zz_St) (Qp : Int32 → Prop) (h : zq1_isFull σ Qp) : zz_Mi l yX1_isFull wsX1_isFull zrm1_isFull D (tysC cy) (wC ad cy) nwC [.ref (ad 3)] σ (fun r σ2 => σ2 = σ ∧ Qp r) :=
  zz_Mi.of zz_nwC (wC_ad ad cy) (by decide +kernel) rfl ⟨rfl, rfl⟩ (Nat.le_of_ble_eq_true rfl) (fun p e s m args below meth c A QW K hret => zu1_isFull_0 K  (fun r hn hq pc lv hd => hret r σ hn ⟨rfl, hq⟩ pc lv hd) h)
theorem zin_X1_append_X1 : ∀ w ∈ wsX10, w ∈ wsX1_append := fun w h => List.mem_cons_of_mem _ (List.mem_append_right _ h)
theorem zlk_X1_append_1 : Cond.fieldLink RX1 9 "SolidsRolled$Letters" "signs" "[I" ∈ wsX1_append := List.mem_of_getElem? (i := 1) rfl
theorem zlk_X1_append_2 : Cond.fieldLink RX1 15 "SolidsRolled$Letters" "size" "I" ∈ wsX1_append := List.mem_of_getElem? (i := 2) rfl
abbrev zrm1_append : Room := { frames := 0, cells := 0, slots := 0, locals := 0 }
set_option maxHeartbeats 4000000 in
set_option maxRecDepth 100000 in
theorem zu1_append_0 {p : Program} {l : Launch} {e : Env} {s : State} {m : MethodId} {args : Array Value} {below : List Frame} {meth : Method} {c : Code} {Q : State → Prop} {D : va_G} {A : Nat → Prop} {ad : Nat → Nat} {cy : Nat → ClassId} {v1 : Int32} {σ : zz_St} (K : zz_K p s m args c cX1_append 2 RX1 wsX1_append D (tysC cy) A (wC ad cy) nwC) {Qp : zz_St → Prop} (hret : ∀ (σ2 : zz_St), Qp σ2 → ∀ (pc : Nat) (lv : List (Nat × Value)), decode cX1_append pc = .ok (.return_, 1) → zz_G p l e zrm1_append s m args below meth c Q D A (wC ad cy) 2 pc lv [] σ2) (h : zq1_append v1 σ Qp) : zz_G p l e zrm1_append s m args below meth c Q D A (wC ad cy) 2 0 [(0, .ref (ad 3)), (1, .int v1)] [] σ := by
  unfold zq1_append at h
  refine zz_aload_n K 0 dX1_append_0 rfl rfl ?_
  refine zg1_0_0 K zin_X1_append_X1 zlk_X1_append_1 dX1_append_1 ?_
  refine zz_aload_n K 0 dX1_append_4 rfl rfl ?_
  refine zg1_1_0 K zin_X1_append_X1 zlk_X1_append_2 dX1_append_5 ?_
  refine zz_iload_n K 1 dX1_append_8 rfl rfl ?_
  obtain ⟨hin, h⟩ := h
  refine zz_iastore K 0 (σ2 := zz_A σ 18 (upd ((σ).2.1 18) ((σ).1 12).toNatClampNeg v1)) (wC_at_18 ad cy σ) (wC_set_18 ad cy σ _) rfl hin dX1_append_9 ?_
  refine zz_nms (fun g3 eg3 => ?_)
  have h := h g3 eg3
  refine zz_aload_n K 0 dX1_append_10 rfl rfl ?_
  refine zz_dup K rfl dX1_append_11 ?_
  refine zg1_1_0 K zin_X1_append_X1 zlk_X1_append_2 dX1_append_12 ?_
  refine zz_iconst K dX1_append_15 zcCi_1 ?_
  refine zz_iadd K dX1_append_16 ?_
  refine zp1_1_0 K zin_X1_append_X1 zlk_X1_append_2 dX1_append_17 ?_
  refine zz_nms (fun g4 eg4 => ?_)
  have h := h g4 eg4
  exact hret _ h _ _ dX1_append_20
set_option maxRecDepth 100000 in
theorem zc1_append (l : Launch) (D : va_G) (ad : Nat → Nat) (cy : Nat → ClassId) (v1 : Int32) (σ : zz_St) (Qp : zz_St → Prop) (h : zq1_append v1 σ Qp) : zz_Mv l yX1_append wsX1_append zrm1_append D (tysC cy) (wC ad cy) nwC [.ref (ad 3), .int v1] σ Qp :=
  zz_Mv.of zz_nwC (wC_ad ad cy) (by decide +kernel) rfl ⟨rfl, rfl⟩ (Nat.le_of_ble_eq_true rfl) (fun p e s m args below meth c A QW K hret => zu1_append_0 K  hret h)
theorem zin_X1_clear_X1 : ∀ w ∈ wsX10, w ∈ wsX1_clear := fun w h => List.mem_cons_of_mem _ (List.mem_append_right _ h)
theorem zlk_X1_clear_1 : Cond.fieldLink RX1 15 "SolidsRolled$Letters" "size" "I" ∈ wsX1_clear := List.mem_of_getElem? (i := 1) rfl
abbrev zrm1_clear : Room := { frames := 0, cells := 0, slots := 0, locals := 0 }
set_option maxHeartbeats 4000000 in
set_option maxRecDepth 100000 in
theorem zu1_clear_0 {p : Program} {l : Launch} {e : Env} {s : State} {m : MethodId} {args : Array Value} {below : List Frame} {meth : Method} {c : Code} {Q : State → Prop} {D : va_G} {A : Nat → Prop} {ad : Nat → Nat} {cy : Nat → ClassId}  {σ : zz_St} (K : zz_K p s m args c cX1_clear 1 RX1 wsX1_clear D (tysC cy) A (wC ad cy) nwC) {Qp : zz_St → Prop} (hret : ∀ (σ2 : zz_St), Qp σ2 → ∀ (pc : Nat) (lv : List (Nat × Value)), decode cX1_clear pc = .ok (.return_, 1) → zz_G p l e zrm1_clear s m args below meth c Q D A (wC ad cy) 1 pc lv [] σ2) (h : zq1_clear σ Qp) : zz_G p l e zrm1_clear s m args below meth c Q D A (wC ad cy) 1 0 [(0, .ref (ad 3))] [] σ := by
  unfold zq1_clear at h
  refine zz_aload_n K 0 dX1_clear_0 rfl rfl ?_
  refine zz_iconst K dX1_clear_1 zcCi_0 ?_
  refine zp1_1_0 K zin_X1_clear_X1 zlk_X1_clear_1 dX1_clear_2 ?_
  refine zz_nms (fun g2 eg2 => ?_)
  have h := h g2 eg2
  exact hret _ h _ _ dX1_clear_5
set_option maxRecDepth 100000 in
theorem zc1_clear (l : Launch) (D : va_G) (ad : Nat → Nat) (cy : Nat → ClassId)  (σ : zz_St) (Qp : zz_St → Prop) (h : zq1_clear σ Qp) : zz_Mv l yX1_clear wsX1_clear zrm1_clear D (tysC cy) (wC ad cy) nwC [.ref (ad 3)] σ Qp :=
  zz_Mv.of zz_nwC (wC_ad ad cy) (by decide +kernel) rfl ⟨rfl, rfl⟩ (Nat.le_of_ble_eq_true rfl) (fun p e s m args below meth c A QW K hret => zu1_clear_0 K  hret h)
theorem zin_X1_tileAt_X1 : ∀ w ∈ wsX10, w ∈ wsX1_tileAt := fun w h => List.mem_cons_of_mem _ (List.mem_append_right _ h)
theorem zlk_X1_tileAt_1 : Cond.fieldLink RX1 9 "SolidsRolled$Letters" "signs" "[I" ∈ wsX1_tileAt := List.mem_of_getElem? (i := 1) rfl
theorem zcCi_2 : Int32.ofInt (2) = (2 : Int32) := by decide
theorem zcCi_m1 : Int32.ofInt (-1) = (-1 : Int32) := by decide
abbrev zrm1_tileAt : Room := { frames := 0, cells := 0, slots := 0, locals := 0 }
set_option maxHeartbeats 4000000 in
set_option maxRecDepth 100000 in
theorem zu1_tileAt_0 {p : Program} {l : Launch} {e : Env} {s : State} {m : MethodId} {args : Array Value} {below : List Frame} {meth : Method} {c : Code} {Q : State → Prop} {D : va_G} {A : Nat → Prop} {ad : Nat → Nat} {cy : Nat → ClassId} {v1 : Int32} {σ : zz_St} (K : zz_K p s m args c cX1_tileAt 2 RX1 wsX1_tileAt D (tysC cy) A (wC ad cy) nwC) {Qp : Int32 → Prop} (hret : ∀ (r : Int32), narrow .int (.int r) = .int r → Qp r → ∀ (pc : Nat) (lv : List (Nat × Value)), decode cX1_tileAt pc = .ok (.ireturn, 1) → zz_G p l e zrm1_tileAt s m args below meth c Q D A (wC ad cy) 2 pc lv [.int r] σ) (h : zq1_tileAt v1 σ Qp) : zz_G p l e zrm1_tileAt s m args below meth c Q D A (wC ad cy) 2 0 [(0, .ref (ad 3)), (1, .int v1)] [] σ := by
  unfold zq1_tileAt at h
  refine zz_aload_n K 0 dX1_tileAt_0 rfl rfl ?_
  refine zg1_0_0 K zin_X1_tileAt_X1 zlk_X1_tileAt_1 dX1_tileAt_1 ?_
  refine zz_iload_n K 1 dX1_tileAt_4 rfl rfl ?_
  obtain ⟨hin, h⟩ := h
  refine zz_iaload K 0 (wC_at_18 ad cy σ) rfl hin dX1_tileAt_5 ?_
  refine zz_nmi (fun x2 ex2 => ?_)
  have h := h x2 ex2
  by_cases c3 : x2 = (35 : Int32)
  · have h := (And.left h) c3
    refine zz_look K 42 dX1_tileAt_6 (by decide) (by rw [c3]) rfl ?_
    refine zz_iconst K dX1_tileAt_42 zcCi_1 ?_
    exact hret _ rfl h _ _ dX1_tileAt_43
  have h := (And.right h) c3
  by_cases c4 : x2 = (46 : Int32)
  · have h := (And.left h) c4
    refine zz_look K 40 dX1_tileAt_6 (by decide) (by rw [c4]) rfl ?_
    refine zz_iconst K dX1_tileAt_40 zcCi_0 ?_
    exact hret _ rfl h _ _ dX1_tileAt_41
  have h := (And.right h) c4
  by_cases c5 : x2 = (126 : Int32)
  · have h := (And.left h) c5
    refine zz_look K 44 dX1_tileAt_6 (by decide) (by rw [c5]) rfl ?_
    refine zz_iconst K dX1_tileAt_44 zcCi_2 ?_
    exact hret _ rfl h _ _ dX1_tileAt_45
  have h := (And.right h) c5
  refine zz_look K 46 dX1_tileAt_6 (by decide) (by show Op.lookupswitch.offset [(35, 36), (46, 34), (126, 38)] 40 x2.toInt = 40; rw [lv_osw c3 (by decide), lv_osw c4 (by decide), lv_osw c5 (by decide)]; rfl) rfl ?_
  refine zz_iconst K dX1_tileAt_46 zcCi_m1 ?_
  exact hret _ rfl h _ _ dX1_tileAt_47
set_option maxRecDepth 100000 in
theorem zc1_tileAt (l : Launch) (D : va_G) (ad : Nat → Nat) (cy : Nat → ClassId) (v1 : Int32) (σ : zz_St) (Qp : Int32 → Prop) (h : zq1_tileAt v1 σ Qp) : zz_Mi l yX1_tileAt wsX1_tileAt zrm1_tileAt D (tysC cy) (wC ad cy) nwC [.ref (ad 3), .int v1] σ (fun r σ2 => σ2 = σ ∧ Qp r) :=
  zz_Mi.of zz_nwC (wC_ad ad cy) (by decide +kernel) rfl ⟨rfl, rfl⟩ (Nat.le_of_ble_eq_true rfl) (fun p e s m args below meth c A QW K hret => zu1_tileAt_0 K  (fun r hn hq pc lv hd => hret r σ hn ⟨rfl, hq⟩ pc lv hd) h)
theorem zin_X1_wayAt_X1 : ∀ w ∈ wsX10, w ∈ wsX1_wayAt := fun w h => List.mem_cons_of_mem _ (List.mem_append_right _ h)
theorem zlk_X1_wayAt_1 : Cond.fieldLink RX1 9 "SolidsRolled$Letters" "signs" "[I" ∈ wsX1_wayAt := List.mem_of_getElem? (i := 1) rfl
theorem zcCi_3 : Int32.ofInt (3) = (3 : Int32) := by decide
abbrev zrm1_wayAt : Room := { frames := 0, cells := 0, slots := 0, locals := 0 }
set_option maxHeartbeats 4000000 in
set_option maxRecDepth 100000 in
theorem zu1_wayAt_0 {p : Program} {l : Launch} {e : Env} {s : State} {m : MethodId} {args : Array Value} {below : List Frame} {meth : Method} {c : Code} {Q : State → Prop} {D : va_G} {A : Nat → Prop} {ad : Nat → Nat} {cy : Nat → ClassId} {v1 : Int32} {σ : zz_St} (K : zz_K p s m args c cX1_wayAt 2 RX1 wsX1_wayAt D (tysC cy) A (wC ad cy) nwC) {Qp : Int32 → Prop} (hret : ∀ (r : Int32), narrow .int (.int r) = .int r → Qp r → ∀ (pc : Nat) (lv : List (Nat × Value)), decode cX1_wayAt pc = .ok (.ireturn, 1) → zz_G p l e zrm1_wayAt s m args below meth c Q D A (wC ad cy) 2 pc lv [.int r] σ) (h : zq1_wayAt v1 σ Qp) : zz_G p l e zrm1_wayAt s m args below meth c Q D A (wC ad cy) 2 0 [(0, .ref (ad 3)), (1, .int v1)] [] σ := by
  unfold zq1_wayAt at h
  refine zz_aload_n K 0 dX1_wayAt_0 rfl rfl ?_
  refine zg1_0_0 K zin_X1_wayAt_X1 zlk_X1_wayAt_1 dX1_wayAt_1 ?_
  refine zz_iload_n K 1 dX1_wayAt_4 rfl rfl ?_
  obtain ⟨hin, h⟩ := h
  refine zz_iaload K 0 (wC_at_18 ad cy σ) rfl hin dX1_wayAt_5 ?_
  refine zz_nmi (fun x2 ex2 => ?_)
  have h := h x2 ex2
  by_cases c3 : x2 = (100 : Int32)
  · have h := (And.left h) c3
    refine zz_look K 52 dX1_wayAt_6 (by decide) (by rw [c3]) rfl ?_
    refine zz_iconst K dX1_wayAt_52 zcCi_2 ?_
    exact hret _ rfl h _ _ dX1_wayAt_53
  have h := (And.right h) c3
  by_cases c4 : x2 = (108 : Int32)
  · have h := (And.left h) c4
    refine zz_look K 54 dX1_wayAt_6 (by decide) (by rw [c4]) rfl ?_
    refine zz_iconst K dX1_wayAt_54 zcCi_3 ?_
    exact hret _ rfl h _ _ dX1_wayAt_55
  have h := (And.right h) c4
  by_cases c5 : x2 = (114 : Int32)
  · have h := (And.left h) c5
    refine zz_look K 50 dX1_wayAt_6 (by decide) (by rw [c5]) rfl ?_
    refine zz_iconst K dX1_wayAt_50 zcCi_1 ?_
    exact hret _ rfl h _ _ dX1_wayAt_51
  have h := (And.right h) c5
  by_cases c6 : x2 = (117 : Int32)
  · have h := (And.left h) c6
    refine zz_look K 48 dX1_wayAt_6 (by decide) (by rw [c6]) rfl ?_
    refine zz_iconst K dX1_wayAt_48 zcCi_0 ?_
    exact hret _ rfl h _ _ dX1_wayAt_49
  have h := (And.right h) c6
  refine zz_look K 56 dX1_wayAt_6 (by decide) (by show Op.lookupswitch.offset [(100, 46), (108, 48), (114, 44), (117, 42)] 50 x2.toInt = 50; rw [lv_osw c3 (by decide), lv_osw c4 (by decide), lv_osw c5 (by decide), lv_osw c6 (by decide)]; rfl) rfl ?_
  refine zz_iconst K dX1_wayAt_56 zcCi_m1 ?_
  exact hret _ rfl h _ _ dX1_wayAt_57
set_option maxRecDepth 100000 in
theorem zc1_wayAt (l : Launch) (D : va_G) (ad : Nat → Nat) (cy : Nat → ClassId) (v1 : Int32) (σ : zz_St) (Qp : Int32 → Prop) (h : zq1_wayAt v1 σ Qp) : zz_Mi l yX1_wayAt wsX1_wayAt zrm1_wayAt D (tysC cy) (wC ad cy) nwC [.ref (ad 3), .int v1] σ (fun r σ2 => σ2 = σ ∧ Qp r) :=
  zz_Mi.of zz_nwC (wC_ad ad cy) (by decide +kernel) rfl ⟨rfl, rfl⟩ (Nat.le_of_ble_eq_true rfl) (fun p e s m args below meth c A QW K hret => zu1_wayAt_0 K  (fun r hn hq pc lv hd => hret r σ hn ⟨rfl, hq⟩ pc lv hd) h)
theorem zcCb_6 : (Int8.ofInt (6)).toInt32 = (6 : Int32) := by decide
theorem zin_X1_boardFault_X1 : ∀ w ∈ wsX10, w ∈ wsX1_boardFault := fun w h => List.mem_cons_of_mem _ (List.mem_append_right _ h)
theorem zlk_X1_boardFault_1 : Cond.fieldLink RX1 15 "SolidsRolled$Letters" "size" "I" ∈ wsX1_boardFault := List.mem_of_getElem? (i := 1) rfl
theorem zlk_X1_boardFault_2 : Cond.fieldLink RX1 9 "SolidsRolled$Letters" "signs" "[I" ∈ wsX1_boardFault := List.mem_of_getElem? (i := 2) rfl
theorem zcCb_59 : (Int8.ofInt (59)).toInt32 = (59 : Int32) := by decide
theorem zdsC_yX1_tileAt_v : yX1_tileAt.cls = RX1 ∧ yX1_tileAt.cls ≠ "java/lang/invoke/MethodHandle" ∧ yX1_tileAt.cls ≠ "java/lang/invoke/VarHandle" ∧ (parseMethodDescriptor yX1_tileAt.desc).map (fun d => d.parameters.length) = some 1 := by decide +kernel
abbrev zrm1_boardFault : Room := { frames := 1, cells := 0, slots := 0, locals := 21 }
set_option maxHeartbeats 4000000 in
set_option maxRecDepth 100000 in
theorem zu1_boardFault_113 {p : Program} {l : Launch} {e : Env} {s : State} {m : MethodId} {args : Array Value} {below : List Frame} {meth : Method} {c : Code} {Q : State → Prop} {D : va_G} {A : Nat → Prop} {ad : Nat → Nat} {cy : Nat → ClassId} {v1 : Int32} {v3 : Int32} {v4 : Int32} {s0 : Int32} {σ : zz_St} (K : zz_K p s m args c cX1_boardFault 7 RX1 wsX1_boardFault D (tysC cy) A (wC ad cy) nwC) {Qp : Int32 → Prop} (hret : ∀ (r : Int32), narrow .int (.int r) = .int r → Qp r → ∀ (pc : Nat) (lv : List (Nat × Value)), decode cX1_boardFault pc = .ok (.ireturn, 1) → zz_G p l e zrm1_boardFault s m args below meth c Q D A (wC ad cy) 7 pc lv [.int r] σ) {B10 : Int32 → Int32 → Int32 → Int32 → Prop} (hB10 : ∀ (v1' : Int32) (v2' : Int32) (v3' : Int32) (v4' : Int32), B10 v1' v2' v3' v4' → zz_G p l e zrm1_boardFault s m args below meth c Q D A (wC ad cy) 7 10 [(0, .ref (ad 3)), (1, .int v1'), (2, .int v2'), (3, .int v3'), (4, .int v4')] [] σ) (h : zq1_boardFault_113 v1 v3 v4 s0 σ Qp B10) : zz_G p l e zrm1_boardFault s m args below meth c Q D A (wC ad cy) 7 113 [(0, .ref (ad 3)), (1, .int v1), (3, .int v3), (4, .int v4)] [.int s0] σ := by
  unfold zq1_boardFault_113 at h
  refine zz_istore_n K [(2, .int s0), (0, .ref (ad 3)), (1, .int v1), (3, .int v3), (4, .int v4)] dX1_boardFault_113 rfl (by decide) rfl ?_
  refine zz_iinc K 4 [(4, .int (v4 + (1 : Int32))), (2, .int s0), (0, .ref (ad 3)), (1, .int v1), (3, .int v3)] dX1_boardFault_114 zcCi_1 rfl (by decide) rfl ?_
  refine zz_goto K 10 dX1_boardFault_117 rfl ?_
  refine zz_sub [2, 3, 1, 4, 0] [(0, .ref (ad 3)), (1, .int v1), (2, .int s0), (3, .int v3), (4, .int (v4 + (1 : Int32)))] rfl ?_
  exact hB10 v1 s0 v3 (v4 + (1 : Int32)) h
set_option maxHeartbeats 4000000 in
set_option maxRecDepth 100000 in
theorem zu1_boardFault_101 {p : Program} {l : Launch} {e : Env} {s : State} {m : MethodId} {args : Array Value} {below : List Frame} {meth : Method} {c : Code} {Q : State → Prop} {D : va_G} {A : Nat → Prop} {ad : Nat → Nat} {cy : Nat → ClassId} {v1 : Int32} {v2 : Int32} {v3 : Int32} {v4 : Int32} {v5 : Int32} {σ : zz_St} (K : zz_K p s m args c cX1_boardFault 7 RX1 wsX1_boardFault D (tysC cy) A (wC ad cy) nwC) {Qp : Int32 → Prop} (hret : ∀ (r : Int32), narrow .int (.int r) = .int r → Qp r → ∀ (pc : Nat) (lv : List (Nat × Value)), decode cX1_boardFault pc = .ok (.ireturn, 1) → zz_G p l e zrm1_boardFault s m args below meth c Q D A (wC ad cy) 7 pc lv [.int r] σ) {B10 : Int32 → Int32 → Int32 → Int32 → Prop} (hB10 : ∀ (v1' : Int32) (v2' : Int32) (v3' : Int32) (v4' : Int32), B10 v1' v2' v3' v4' → zz_G p l e zrm1_boardFault s m args below meth c Q D A (wC ad cy) 7 10 [(0, .ref (ad 3)), (1, .int v1'), (2, .int v2'), (3, .int v3'), (4, .int v4')] [] σ) (h : zq1_boardFault_101 v1 v2 v3 v4 v5 σ Qp B10) : zz_G p l e zrm1_boardFault s m args below meth c Q D A (wC ad cy) 7 101 [(0, .ref (ad 3)), (1, .int v1), (2, .int v2), (3, .int v3), (4, .int v4), (5, .int v5)] [] σ := by
  unfold zq1_boardFault_101 at h
  refine zz_iload K 5 dX1_boardFault_101 rfl ?_
  refine zz_if_eq K 110 dX1_boardFault_103 rfl (fun c16 => ?_) (fun c16 => ?_)
  · have h := (And.left h) c16
    refine zz_iload_n K 2 dX1_boardFault_110 rfl rfl ?_
    refine zz_iconst K dX1_boardFault_111 zcCi_1 ?_
    refine zz_iadd K dX1_boardFault_112 ?_
    refine zz_sub [0, 1, 3, 4] [(0, .ref (ad 3)), (1, .int v1), (3, .int v3), (4, .int v4)] rfl ?_
    exact zu1_boardFault_113 K hret hB10 h
  · have h := (And.right h) c16
    refine zz_iconst K dX1_boardFault_106 zcCi_0 ?_
    refine zz_goto K 113 dX1_boardFault_107 rfl ?_
    refine zz_sub [0, 1, 3, 4] [(0, .ref (ad 3)), (1, .int v1), (3, .int v3), (4, .int v4)] rfl ?_
    exact zu1_boardFault_113 K hret hB10 h
set_option maxHeartbeats 4000000 in
set_option maxRecDepth 100000 in
theorem zu1_boardFault_91 {p : Program} {l : Launch} {e : Env} {s : State} {m : MethodId} {args : Array Value} {below : List Frame} {meth : Method} {c : Code} {Q : State → Prop} {D : va_G} {A : Nat → Prop} {ad : Nat → Nat} {cy : Nat → ClassId} {v1 : Int32} {v2 : Int32} {v3 : Int32} {v4 : Int32} {v5 : Int32} {σ : zz_St} (K : zz_K p s m args c cX1_boardFault 7 RX1 wsX1_boardFault D (tysC cy) A (wC ad cy) nwC) {Qp : Int32 → Prop} (hret : ∀ (r : Int32), narrow .int (.int r) = .int r → Qp r → ∀ (pc : Nat) (lv : List (Nat × Value)), decode cX1_boardFault pc = .ok (.ireturn, 1) → zz_G p l e zrm1_boardFault s m args below meth c Q D A (wC ad cy) 7 pc lv [.int r] σ) {B10 : Int32 → Int32 → Int32 → Int32 → Prop} (hB10 : ∀ (v1' : Int32) (v2' : Int32) (v3' : Int32) (v4' : Int32), B10 v1' v2' v3' v4' → zz_G p l e zrm1_boardFault s m args below meth c Q D A (wC ad cy) 7 10 [(0, .ref (ad 3)), (1, .int v1'), (2, .int v2'), (3, .int v3'), (4, .int v4')] [] σ) (h : zq1_boardFault_91 v1 v2 v3 v4 v5 σ Qp B10) : zz_G p l e zrm1_boardFault s m args below meth c Q D A (wC ad cy) 7 91 [(0, .ref (ad 3)), (1, .int v1), (2, .int v2), (3, .int v3), (4, .int v4), (5, .int v5)] [] σ := by
  unfold zq1_boardFault_91 at h
  refine zz_iload K 5 dX1_boardFault_91 rfl ?_
  refine zz_if_eq K 101 dX1_boardFault_93 rfl (fun c17 => ?_) (fun c17 => ?_)
  · have h := (And.left h) c17
    exact zu1_boardFault_101 K hret hB10 h
  · have h := (And.right h) c17
    refine zz_iload_n K 2 dX1_boardFault_96 rfl rfl ?_
    refine zz_istore_n K [(3, .int v2), (0, .ref (ad 3)), (1, .int v1), (2, .int v2), (4, .int v4), (5, .int v5)] dX1_boardFault_97 rfl (by decide) rfl ?_
    refine zz_iinc K 2 [(1, .int (v1 + (1 : Int32))), (3, .int v2), (0, .ref (ad 3)), (2, .int v2), (4, .int v4), (5, .int v5)] dX1_boardFault_98 zcCi_1 rfl (by decide) rfl ?_
    refine zz_sub [2, 0, 3, 1, 4, 5] [(0, .ref (ad 3)), (1, .int (v1 + (1 : Int32))), (2, .int v2), (3, .int v2), (4, .int v4), (5, .int v5)] rfl ?_
    exact zu1_boardFault_101 K hret hB10 h
set_option maxHeartbeats 4000000 in
set_option maxRecDepth 100000 in
theorem zu1_boardFault_70 {p : Program} {l : Launch} {e : Env} {s : State} {m : MethodId} {args : Array Value} {below : List Frame} {meth : Method} {c : Code} {Q : State → Prop} {D : va_G} {A : Nat → Prop} {ad : Nat → Nat} {cy : Nat → ClassId} {v1 : Int32} {v2 : Int32} {v3 : Int32} {v4 : Int32} {v5 : Int32} {s0 : Int32} {σ : zz_St} (K : zz_K p s m args c cX1_boardFault 7 RX1 wsX1_boardFault D (tysC cy) A (wC ad cy) nwC) {Qp : Int32 → Prop} (hret : ∀ (r : Int32), narrow .int (.int r) = .int r → Qp r → ∀ (pc : Nat) (lv : List (Nat × Value)), decode cX1_boardFault pc = .ok (.ireturn, 1) → zz_G p l e zrm1_boardFault s m args below meth c Q D A (wC ad cy) 7 pc lv [.int r] σ) {B10 : Int32 → Int32 → Int32 → Int32 → Prop} (hB10 : ∀ (v1' : Int32) (v2' : Int32) (v3' : Int32) (v4' : Int32), B10 v1' v2' v3' v4' → zz_G p l e zrm1_boardFault s m args below meth c Q D A (wC ad cy) 7 10 [(0, .ref (ad 3)), (1, .int v1'), (2, .int v2'), (3, .int v3'), (4, .int v4')] [] σ) (h : zq1_boardFault_70 v1 v2 v3 v4 v5 s0 σ Qp B10) : zz_G p l e zrm1_boardFault s m args below meth c Q D A (wC ad cy) 7 70 [(0, .ref (ad 3)), (1, .int v1), (2, .int v2), (3, .int v3), (4, .int v4), (5, .int v5)] [.int s0] σ := by
  unfold zq1_boardFault_70 at h
  refine zz_istore K [(6, .int s0), (0, .ref (ad 3)), (1, .int v1), (2, .int v2), (3, .int v3), (4, .int v4), (5, .int v5)] dX1_boardFault_70 (by decide) rfl ?_
  refine zz_iload_n K 2 dX1_boardFault_72 rfl rfl ?_
  refine zz_bipush K dX1_boardFault_73 zcCb_6 ?_
  refine zz_icmp_eq K 88 dX1_boardFault_75 rfl (fun c18 => ?_) (fun c18 => ?_)
  · have h := (And.left h) c18
    refine zz_iload K 5 dX1_boardFault_88 rfl ?_
    exact hret _ rfl h _ _ dX1_boardFault_90
  · have h := (And.right h) c18
    refine zz_iload K 6 dX1_boardFault_78 rfl ?_
    refine zz_if_ne K 91 dX1_boardFault_80 rfl (fun c19 => ?_) (fun c19 => ?_)
    · have h := (And.left h) c19
      refine zz_sub [1, 2, 3, 4, 5, 6] [(0, .ref (ad 3)), (1, .int v1), (2, .int v2), (3, .int v3), (4, .int v4), (5, .int v5)] rfl ?_
      exact zu1_boardFault_91 K hret hB10 h
    · have h := (And.right h) c19
      refine zz_iload K 0 dX1_boardFault_83 rfl ?_
      refine zz_if_ne K 91 dX1_boardFault_85 rfl (fun c20 => ?_) (fun c20 => ?_)
      · have h := (And.left h) c20
        refine zz_sub [1, 2, 3, 4, 5, 6] [(0, .ref (ad 3)), (1, .int v1), (2, .int v2), (3, .int v3), (4, .int v4), (5, .int v5)] rfl ?_
        exact zu1_boardFault_91 K hret hB10 h
      · have h := (And.right h) c20
        refine zz_iload K 5 dX1_boardFault_88 rfl ?_
        exact hret _ rfl h _ _ dX1_boardFault_90
set_option maxHeartbeats 4000000 in
set_option maxRecDepth 100000 in
theorem zu1_boardFault_69 {p : Program} {l : Launch} {e : Env} {s : State} {m : MethodId} {args : Array Value} {below : List Frame} {meth : Method} {c : Code} {Q : State → Prop} {D : va_G} {A : Nat → Prop} {ad : Nat → Nat} {cy : Nat → ClassId} {v1 : Int32} {v2 : Int32} {v3 : Int32} {v4 : Int32} {v5 : Int32} {σ : zz_St} (K : zz_K p s m args c cX1_boardFault 7 RX1 wsX1_boardFault D (tysC cy) A (wC ad cy) nwC) {Qp : Int32 → Prop} (hret : ∀ (r : Int32), narrow .int (.int r) = .int r → Qp r → ∀ (pc : Nat) (lv : List (Nat × Value)), decode cX1_boardFault pc = .ok (.ireturn, 1) → zz_G p l e zrm1_boardFault s m args below meth c Q D A (wC ad cy) 7 pc lv [.int r] σ) {B10 : Int32 → Int32 → Int32 → Int32 → Prop} (hB10 : ∀ (v1' : Int32) (v2' : Int32) (v3' : Int32) (v4' : Int32), B10 v1' v2' v3' v4' → zz_G p l e zrm1_boardFault s m args below meth c Q D A (wC ad cy) 7 10 [(0, .ref (ad 3)), (1, .int v1'), (2, .int v2'), (3, .int v3'), (4, .int v4')] [] σ) (h : zq1_boardFault_69 v1 v2 v3 v4 v5 σ Qp B10) : zz_G p l e zrm1_boardFault s m args below meth c Q D A (wC ad cy) 7 69 [(0, .ref (ad 3)), (1, .int v1), (2, .int v2), (3, .int v3), (4, .int v4), (5, .int v5)] [] σ := by
  unfold zq1_boardFault_69 at h
  refine zz_iconst K dX1_boardFault_69 zcCi_0 ?_
  exact zu1_boardFault_70 K hret hB10 h
set_option maxHeartbeats 4000000 in
set_option maxRecDepth 100000 in
theorem zu1_boardFault_49 {p : Program} {l : Launch} {e : Env} {s : State} {m : MethodId} {args : Array Value} {below : List Frame} {meth : Method} {c : Code} {Q : State → Prop} {D : va_G} {A : Nat → Prop} {ad : Nat → Nat} {cy : Nat → ClassId} {v1 : Int32} {v2 : Int32} {v3 : Int32} {v4 : Int32} {s0 : Int32} {σ : zz_St} (K : zz_K p s m args c cX1_boardFault 7 RX1 wsX1_boardFault D (tysC cy) A (wC ad cy) nwC) {Qp : Int32 → Prop} (hret : ∀ (r : Int32), narrow .int (.int r) = .int r → Qp r → ∀ (pc : Nat) (lv : List (Nat × Value)), decode cX1_boardFault pc = .ok (.ireturn, 1) → zz_G p l e zrm1_boardFault s m args below meth c Q D A (wC ad cy) 7 pc lv [.int r] σ) {B10 : Int32 → Int32 → Int32 → Int32 → Prop} (hB10 : ∀ (v1' : Int32) (v2' : Int32) (v3' : Int32) (v4' : Int32), B10 v1' v2' v3' v4' → zz_G p l e zrm1_boardFault s m args below meth c Q D A (wC ad cy) 7 10 [(0, .ref (ad 3)), (1, .int v1'), (2, .int v2'), (3, .int v3'), (4, .int v4')] [] σ) (h : zq1_boardFault_49 v1 v2 v3 v4 s0 σ Qp B10) : zz_G p l e zrm1_boardFault s m args below meth c Q D A (wC ad cy) 7 49 [(0, .ref (ad 3)), (1, .int v1), (2, .int v2), (3, .int v3), (4, .int v4)] [.int s0] σ := by
  unfold zq1_boardFault_49 at h
  refine zz_istore K [(5, .int s0), (0, .ref (ad 3)), (1, .int v1), (2, .int v2), (3, .int v3), (4, .int v4)] dX1_boardFault_49 (by decide) rfl ?_
  refine zz_aload_n K 1 dX1_boardFault_51 rfl rfl ?_
  refine zz_iload K 5 dX1_boardFault_52 rfl ?_
  refine zz_callVi1 K zz_nwC [.int v4] (zc1_tileAt l D ad cy v4 σ _  h) gX1_boardFault_X1_tileAt rfl ⟨rfl, rfl⟩ zdsC_yX1_tileAt_v ⟨Nat.le_of_ble_eq_true rfl, Nat.le_of_ble_eq_true rfl⟩ (wC_at_3 ad cy σ) rfl rfl rfl rfl (Nat.le_of_ble_eq_true rfl) dX1_boardFault_54 (fun r21 h => ?_)
  refine zz_if_lt K 69 dX1_boardFault_57 rfl (fun c22 => ?_) (fun c22 => ?_)
  · have h := (And.left h) c22
    refine zz_sub [1, 2, 3, 4, 5, 0] [(0, .ref (ad 3)), (1, .int v1), (2, .int v2), (3, .int v3), (4, .int v4), (5, .int s0)] rfl ?_
    exact zu1_boardFault_69 K hret hB10 h
  · have h := (And.right h) c22
    refine zz_iload_n K 3 dX1_boardFault_60 rfl rfl ?_
    refine zz_iload_n K 4 dX1_boardFault_61 rfl rfl ?_
    refine zz_icmp_ge K 69 dX1_boardFault_62 rfl (fun c23 => ?_) (fun c23 => ?_)
    · have h := (And.left h) c23
      refine zz_sub [1, 2, 3, 4, 5, 0] [(0, .ref (ad 3)), (1, .int v1), (2, .int v2), (3, .int v3), (4, .int v4), (5, .int s0)] rfl ?_
      exact zu1_boardFault_69 K hret hB10 h
    · have h := (And.right h) c23
      refine zz_iconst K dX1_boardFault_65 zcCi_1 ?_
      refine zz_goto K 70 dX1_boardFault_66 rfl ?_
      refine zz_sub [1, 2, 3, 4, 5, 0] [(0, .ref (ad 3)), (1, .int v1), (2, .int v2), (3, .int v3), (4, .int v4), (5, .int s0)] rfl ?_
      exact zu1_boardFault_70 K hret hB10 h
set_option maxHeartbeats 4000000 in
set_option maxRecDepth 100000 in
theorem zu1_boardFault_44 {p : Program} {l : Launch} {e : Env} {s : State} {m : MethodId} {args : Array Value} {below : List Frame} {meth : Method} {c : Code} {Q : State → Prop} {D : va_G} {A : Nat → Prop} {ad : Nat → Nat} {cy : Nat → ClassId} {v1 : Int32} {v2 : Int32} {v3 : Int32} {v4 : Int32} {σ : zz_St} (K : zz_K p s m args c cX1_boardFault 7 RX1 wsX1_boardFault D (tysC cy) A (wC ad cy) nwC) {Qp : Int32 → Prop} (hret : ∀ (r : Int32), narrow .int (.int r) = .int r → Qp r → ∀ (pc : Nat) (lv : List (Nat × Value)), decode cX1_boardFault pc = .ok (.ireturn, 1) → zz_G p l e zrm1_boardFault s m args below meth c Q D A (wC ad cy) 7 pc lv [.int r] σ) {B10 : Int32 → Int32 → Int32 → Int32 → Prop} (hB10 : ∀ (v1' : Int32) (v2' : Int32) (v3' : Int32) (v4' : Int32), B10 v1' v2' v3' v4' → zz_G p l e zrm1_boardFault s m args below meth c Q D A (wC ad cy) 7 10 [(0, .ref (ad 3)), (1, .int v1'), (2, .int v2'), (3, .int v3'), (4, .int v4')] [] σ) (h : zq1_boardFault_44 v1 v2 v3 v4 σ Qp B10) : zz_G p l e zrm1_boardFault s m args below meth c Q D A (wC ad cy) 7 44 [(0, .ref (ad 3)), (1, .int v1), (2, .int v2), (3, .int v3), (4, .int v4)] [] σ := by
  unfold zq1_boardFault_44 at h
  refine zz_iconst K dX1_boardFault_44 zcCi_1 ?_
  refine zz_goto K 49 dX1_boardFault_45 rfl ?_
  exact zu1_boardFault_49 K hret hB10 h
set_option maxHeartbeats 4000000 in
set_option maxRecDepth 100000 in
theorem zu1_boardFault_48 {p : Program} {l : Launch} {e : Env} {s : State} {m : MethodId} {args : Array Value} {below : List Frame} {meth : Method} {c : Code} {Q : State → Prop} {D : va_G} {A : Nat → Prop} {ad : Nat → Nat} {cy : Nat → ClassId} {v1 : Int32} {v2 : Int32} {v3 : Int32} {v4 : Int32} {σ : zz_St} (K : zz_K p s m args c cX1_boardFault 7 RX1 wsX1_boardFault D (tysC cy) A (wC ad cy) nwC) {Qp : Int32 → Prop} (hret : ∀ (r : Int32), narrow .int (.int r) = .int r → Qp r → ∀ (pc : Nat) (lv : List (Nat × Value)), decode cX1_boardFault pc = .ok (.ireturn, 1) → zz_G p l e zrm1_boardFault s m args below meth c Q D A (wC ad cy) 7 pc lv [.int r] σ) {B10 : Int32 → Int32 → Int32 → Int32 → Prop} (hB10 : ∀ (v1' : Int32) (v2' : Int32) (v3' : Int32) (v4' : Int32), B10 v1' v2' v3' v4' → zz_G p l e zrm1_boardFault s m args below meth c Q D A (wC ad cy) 7 10 [(0, .ref (ad 3)), (1, .int v1'), (2, .int v2'), (3, .int v3'), (4, .int v4')] [] σ) (h : zq1_boardFault_48 v1 v2 v3 v4 σ Qp B10) : zz_G p l e zrm1_boardFault s m args below meth c Q D A (wC ad cy) 7 48 [(0, .ref (ad 3)), (1, .int v1), (2, .int v2), (3, .int v3), (4, .int v4)] [] σ := by
  unfold zq1_boardFault_48 at h
  refine zz_iconst K dX1_boardFault_48 zcCi_0 ?_
  exact zu1_boardFault_49 K hret hB10 h
set_option maxHeartbeats 4000000 in
set_option maxRecDepth 100000 in
theorem zu1_boardFault_10 {p : Program} {l : Launch} {e : Env} {s : State} {m : MethodId} {args : Array Value} {below : List Frame} {meth : Method} {c : Code} {Q : State → Prop} {D : va_G} {A : Nat → Prop} {ad : Nat → Nat} {cy : Nat → ClassId} {v1 : Int32} {v2 : Int32} {v3 : Int32} {v4 : Int32} {σ : zz_St} (K : zz_K p s m args c cX1_boardFault 7 RX1 wsX1_boardFault D (tysC cy) A (wC ad cy) nwC) {Qp : Int32 → Prop} (hret : ∀ (r : Int32), narrow .int (.int r) = .int r → Qp r → ∀ (pc : Nat) (lv : List (Nat × Value)), decode cX1_boardFault pc = .ok (.ireturn, 1) → zz_G p l e zrm1_boardFault s m args below meth c Q D A (wC ad cy) 7 pc lv [.int r] σ) (h : zq1_boardFault_10 v1 v2 v3 v4 σ Qp) : zz_G p l e zrm1_boardFault s m args below meth c Q D A (wC ad cy) 7 10 [(0, .ref (ad 3)), (1, .int v1), (2, .int v2), (3, .int v3), (4, .int v4)] [] σ := by
  unfold zq1_boardFault_10 at h
  obtain ⟨I10, M10, h0, hs⟩ := h
  have key : ∀ (nq : Nat) (v1 : Int32) (v2 : Int32) (v3 : Int32) (v4 : Int32), M10 v1 v2 v3 v4 < nq → I10 v1 v2 v3 v4 → zz_G p l e zrm1_boardFault s m args below meth c Q D A (wC ad cy) 7 10 [(0, .ref (ad 3)), (1, .int v1), (2, .int v2), (3, .int v3), (4, .int v4)] [] σ := by
    intro nq
    induction nq with
    | zero => intro v1 v2 v3 v4 hlt; exact absurd hlt (Nat.not_lt_zero _)
    | succ nq ih =>
      intro v1 v2 v3 v4 hlt hI
      have h := hs v1 v2 v3 v4 hI
      have hB10 : ∀ (v1' : Int32) (v2' : Int32) (v3' : Int32) (v4' : Int32), (fun v1' v2' v3' v4' => I10 v1' v2' v3' v4' ∧ M10 v1' v2' v3' v4' < M10 v1 v2 v3 v4) v1' v2' v3' v4' → zz_G p l e zrm1_boardFault s m args below meth c Q D A (wC ad cy) 7 10 [(0, .ref (ad 3)), (1, .int v1'), (2, .int v2'), (3, .int v3'), (4, .int v4')] [] σ := fun v1' v2' v3' v4' hz => ih v1' v2' v3' v4' (Nat.lt_of_lt_of_le hz.2 (Nat.le_of_lt_succ hlt)) hz.1
      refine zz_iload K 4 dX1_boardFault_10 rfl ?_
      refine zz_aload_n K 0 dX1_boardFault_12 rfl rfl ?_
      refine zg1_1_0 K zin_X1_boardFault_X1 zlk_X1_boardFault_1 dX1_boardFault_13 ?_
      refine zz_icmp_ge K 120 dX1_boardFault_16 rfl (fun c24 => ?_) (fun c24 => ?_)
      · have h := (And.left h) c24
        refine zz_iload_n K 1 dX1_boardFault_120 rfl rfl ?_
        refine zz_if_eq K 128 dX1_boardFault_121 rfl (fun c25 => ?_) (fun c25 => ?_)
        · have h := (And.left h) c25
          refine zz_aload_n K 0 dX1_boardFault_128 rfl rfl ?_
          refine zg1_1_0 K zin_X1_boardFault_X1 zlk_X1_boardFault_1 dX1_boardFault_129 ?_
          refine zz_goto K 136 dX1_boardFault_132 rfl ?_
          exact hret _ rfl h _ _ dX1_boardFault_136
        · have h := (And.right h) c25
          refine zz_iload_n K 2 dX1_boardFault_124 rfl rfl ?_
          refine zz_if_le K 135 dX1_boardFault_125 rfl (fun c26 => ?_) (fun c26 => ?_)
          · have h := (And.left h) c26
            refine zz_iconst K dX1_boardFault_135 zcCi_m1 ?_
            exact hret _ rfl h _ _ dX1_boardFault_136
          · have h := (And.right h) c26
            refine zz_aload_n K 0 dX1_boardFault_128 rfl rfl ?_
            refine zg1_1_0 K zin_X1_boardFault_X1 zlk_X1_boardFault_1 dX1_boardFault_129 ?_
            refine zz_goto K 136 dX1_boardFault_132 rfl ?_
            exact hret _ rfl h _ _ dX1_boardFault_136
      · have h := (And.right h) c24
        refine zz_aload_n K 0 dX1_boardFault_19 rfl rfl ?_
        refine zg1_0_0 K zin_X1_boardFault_X1 zlk_X1_boardFault_2 dX1_boardFault_20 ?_
        refine zz_iload K 4 dX1_boardFault_23 rfl ?_
        obtain ⟨hin, h⟩ := h
        refine zz_iaload K 0 (wC_at_18 ad cy σ) rfl hin dX1_boardFault_25 ?_
        refine zz_bipush K dX1_boardFault_26 zcCb_59 ?_
        refine zz_icmp_ne K 48 dX1_boardFault_28 rfl (fun c27 => ?_) (fun c27 => ?_)
        · have h := (And.left h) c27
          exact zu1_boardFault_48 K hret hB10 h
        · have h := (And.right h) c27
          refine zz_iload_n K 2 dX1_boardFault_31 rfl rfl ?_
          refine zz_if_le K 48 dX1_boardFault_32 rfl (fun c28 => ?_) (fun c28 => ?_)
          · have h := (And.left h) c28
            exact zu1_boardFault_48 K hret hB10 h
          · have h := (And.right h) c28
            refine zz_iload_n K 1 dX1_boardFault_35 rfl rfl ?_
            refine zz_if_eq K 44 dX1_boardFault_36 rfl (fun c29 => ?_) (fun c29 => ?_)
            · have h := (And.left h) c29
              exact zu1_boardFault_44 K hret hB10 h
            · have h := (And.right h) c29
              refine zz_iload_n K 2 dX1_boardFault_39 rfl rfl ?_
              refine zz_iload_n K 3 dX1_boardFault_40 rfl rfl ?_
              refine zz_icmp_ne K 48 dX1_boardFault_41 rfl (fun c30 => ?_) (fun c30 => ?_)
              · have h := (And.left h) c30
                exact zu1_boardFault_48 K hret hB10 h
              · have h := (And.right h) c30
                exact zu1_boardFault_44 K hret hB10 h
  exact key _ v1 v2 v3 v4 (Nat.lt_succ_self _) h0
set_option maxHeartbeats 4000000 in
set_option maxRecDepth 100000 in
theorem zu1_boardFault_0 {p : Program} {l : Launch} {e : Env} {s : State} {m : MethodId} {args : Array Value} {below : List Frame} {meth : Method} {c : Code} {Q : State → Prop} {D : va_G} {A : Nat → Prop} {ad : Nat → Nat} {cy : Nat → ClassId}  {σ : zz_St} (K : zz_K p s m args c cX1_boardFault 7 RX1 wsX1_boardFault D (tysC cy) A (wC ad cy) nwC) {Qp : Int32 → Prop} (hret : ∀ (r : Int32), narrow .int (.int r) = .int r → Qp r → ∀ (pc : Nat) (lv : List (Nat × Value)), decode cX1_boardFault pc = .ok (.ireturn, 1) → zz_G p l e zrm1_boardFault s m args below meth c Q D A (wC ad cy) 7 pc lv [.int r] σ) (h : zq1_boardFault σ Qp) : zz_G p l e zrm1_boardFault s m args below meth c Q D A (wC ad cy) 7 0 [(0, .ref (ad 3))] [] σ := by
  unfold zq1_boardFault at h
  refine zz_iconst K dX1_boardFault_0 zcCi_0 ?_
  refine zz_istore_n K [(1, .int (0 : Int32)), (0, .ref (ad 3))] dX1_boardFault_1 rfl (by decide) rfl ?_
  refine zz_iconst K dX1_boardFault_2 zcCi_0 ?_
  refine zz_istore_n K [(2, .int (0 : Int32)), (1, .int (0 : Int32)), (0, .ref (ad 3))] dX1_boardFault_3 rfl (by decide) rfl ?_
  refine zz_bipush K dX1_boardFault_4 zcCb_6 ?_
  refine zz_istore_n K [(3, .int (6 : Int32)), (2, .int (0 : Int32)), (1, .int (0 : Int32)), (0, .ref (ad 3))] dX1_boardFault_6 rfl (by decide) rfl ?_
  refine zz_iconst K dX1_boardFault_7 zcCi_0 ?_
  refine zz_istore K [(4, .int (0 : Int32)), (3, .int (6 : Int32)), (2, .int (0 : Int32)), (1, .int (0 : Int32)), (0, .ref (ad 3))] dX1_boardFault_8 (by decide) rfl ?_
  refine zz_sub [4, 3, 2, 1, 0] [(0, .ref (ad 3)), (1, .int (0 : Int32)), (2, .int (0 : Int32)), (3, .int (6 : Int32)), (4, .int (0 : Int32))] rfl ?_
  exact zu1_boardFault_10 K hret h
set_option maxRecDepth 100000 in
theorem zc1_boardFault (l : Launch) (D : va_G) (ad : Nat → Nat) (cy : Nat → ClassId)  (σ : zz_St) (Qp : Int32 → Prop) (h : zq1_boardFault σ Qp) : zz_Mi l yX1_boardFault wsX1_boardFault zrm1_boardFault D (tysC cy) (wC ad cy) nwC [.ref (ad 3)] σ (fun r σ2 => σ2 = σ ∧ Qp r) :=
  zz_Mi.of zz_nwC (wC_ad ad cy) (by decide +kernel) rfl ⟨rfl, rfl⟩ (Nat.le_of_ble_eq_true rfl) (fun p e s m args below meth c A QW K hret => zu1_boardFault_0 K  (fun r hn hq pc lv hd => hret r σ hn ⟨rfl, hq⟩ pc lv hd) h)
theorem zin_X2_isMissing_X2 : ∀ w ∈ wsX20, w ∈ wsX2_isMissing := fun w h => List.mem_cons_of_mem _ (List.mem_append_right _ h)
theorem zlk_X2_isMissing_1 : Cond.fieldLink RX2 22 "SolidsRolled$Rack" "size" "I" ∈ wsX2_isMissing := List.mem_of_getElem? (i := 1) rfl
abbrev zrm2_isMissing : Room := { frames := 0, cells := 0, slots := 0, locals := 0 }
set_option maxHeartbeats 4000000 in
set_option maxRecDepth 100000 in
theorem zu2_isMissing_0 {p : Program} {l : Launch} {e : Env} {s : State} {m : MethodId} {args : Array Value} {below : List Frame} {meth : Method} {c : Code} {Q : State → Prop} {D : va_G} {A : Nat → Prop} {ad : Nat → Nat} {cy : Nat → ClassId} {w : Nat} {σ : zz_St} (K : zz_K p s m args c cX2_isMissing 1 RX2 wsX2_isMissing D (tysC cy) A (wC ad cy) nwC) {Qp : Int32 → Prop} (hw : w < 3) (hret : ∀ (r : Int32), narrow .boolean (.int r) = .int r → Qp r → ∀ (pc : Nat) (lv : List (Nat × Value)), decode cX2_isMissing pc = .ok (.ireturn, 1) → zz_G p l e zrm2_isMissing s m args below meth c Q D A (wC ad cy) 1 pc lv [.int r] σ) (h : zq2_isMissing w σ Qp) : zz_G p l e zrm2_isMissing s m args below meth c Q D A (wC ad cy) 1 0 [(0, .ref (ad (11 + w)))] [] σ := by
  unfold zq2_isMissing at h
  refine zz_aload_n K 0 dX2_isMissing_0 rfl rfl ?_
  refine zg2_3_ K hw zin_X2_isMissing_X2 zlk_X2_isMissing_1 dX2_isMissing_1 ?_
  refine zz_if_ge K 11 dX2_isMissing_4 rfl (fun c2 => ?_) (fun c2 => ?_)
  · have h := (And.left h) c2
    refine zz_iconst K dX2_isMissing_11 zcCi_0 ?_
    exact hret _ rfl h _ _ dX2_isMissing_12
  · have h := (And.right h) c2
    refine zz_iconst K dX2_isMissing_7 zcCi_1 ?_
    refine zz_goto K 12 dX2_isMissing_8 rfl ?_
    exact hret _ rfl h _ _ dX2_isMissing_12
set_option maxRecDepth 100000 in
theorem zc2_isMissing (l : Launch) (D : va_G) (ad : Nat → Nat) (cy : Nat → ClassId) (w : Nat) (σ : zz_St) (Qp : Int32 → Prop) (hw : w < 3) (h : zq2_isMissing w σ Qp) : zz_Mi l yX2_isMissing wsX2_isMissing zrm2_isMissing D (tysC cy) (wC ad cy) nwC [.ref (ad (11 + w))] σ (fun r σ2 => σ2 = σ ∧ Qp r) :=
  zz_Mi.of zz_nwC (wC_ad ad cy) (by decide +kernel) rfl ⟨rfl, rfl⟩ (Nat.le_of_ble_eq_true rfl) (fun p e s m args below meth c A QW K hret => zu2_isMissing_0 K hw (fun r hn hq pc lv hd => hret r σ hn ⟨rfl, hq⟩ pc lv hd) h)
theorem zin_X2_begin_X2 : ∀ w ∈ wsX20, w ∈ wsX2_begin := fun w h => List.mem_cons_of_mem _ (List.mem_append_right _ h)
theorem zlk_X2_begin_1 : Cond.fieldLink RX2 9 "SolidsRolled$Rack" "kinds" "[I" ∈ wsX2_begin := List.mem_of_getElem? (i := 1) rfl
theorem zlk_X2_begin_2 : Cond.fieldLink RX2 18 "SolidsRolled$Rack" "madeFor" "I" ∈ wsX2_begin := List.mem_of_getElem? (i := 2) rfl
theorem zlk_X2_begin_3 : Cond.fieldLink RX2 22 "SolidsRolled$Rack" "size" "I" ∈ wsX2_begin := List.mem_of_getElem? (i := 3) rfl
theorem zdsC_yJ7_fill_53178_s : yJ7_fill_53178.cls ≠ "java/lang/invoke/MethodHandle" ∧ yJ7_fill_53178.cls ≠ "java/lang/invoke/VarHandle" ∧ (parseMethodDescriptor yJ7_fill_53178.desc).map (fun d => d.parameters.length) = some 2 := by decide +kernel
abbrev zrm2_begin : Room := { frames := 1, cells := 0, slots := 0, locals := 23 }
set_option maxHeartbeats 4000000 in
set_option maxRecDepth 100000 in
theorem zu2_begin_0 {p : Program} {l : Launch} {e : Env} {s : State} {m : MethodId} {args : Array Value} {below : List Frame} {meth : Method} {c : Code} {Q : State → Prop} {D : va_G} {A : Nat → Prop} {ad : Nat → Nat} {cy : Nat → ClassId} {v1 : Int32} {v2 : Int32} {w : Nat} {σ : zz_St} (K : zz_K p s m args c cX2_begin 3 RX2 wsX2_begin D (tysC cy) A (wC ad cy) nwC) {Qp : zz_St → Prop} (hw : w < 3) (hret : ∀ (σ2 : zz_St), Qp σ2 → ∀ (pc : Nat) (lv : List (Nat × Value)), decode cX2_begin pc = .ok (.return_, 1) → zz_G p l e zrm2_begin s m args below meth c Q D A (wC ad cy) 3 pc lv [] σ2) (h : zq2_begin v1 v2 w σ Qp) : zz_G p l e zrm2_begin s m args below meth c Q D A (wC ad cy) 3 0 [(0, .ref (ad (11 + w))), (1, .int v1), (2, .int v2)] [] σ := by
  unfold zq2_begin at h
  refine zz_aload_n K 0 dX2_begin_0 rfl rfl ?_
  refine zg2_0_ K hw zin_X2_begin_X2 zlk_X2_begin_1 dX2_begin_1 ?_
  refine zz_iconst K dX2_begin_4 zcCi_m1 ?_
  refine zz_fill K 0 (fun z => zz_A σ (37 + w) z) (wC_at_37_ ad cy σ _ hw) (fun z => wC_set_37_ ad cy σ z _ hw) rfl (by decide) gX2_begin_J7_fill_53178 (Nat.le_of_ble_eq_true rfl) (Nat.le_of_ble_eq_true rfl) (Nat.le_of_ble_eq_true rfl) dX2_begin_5 (fun f6 e7 => ?_)
  have h := h f6 e7
  refine zz_nms (fun g8 eg8 => ?_)
  have h := h g8 eg8
  refine zz_aload_n K 0 dX2_begin_8 rfl rfl ?_
  refine zz_iload_n K 1 dX2_begin_9 rfl rfl ?_
  refine zp2_2_ K hw zin_X2_begin_X2 zlk_X2_begin_2 dX2_begin_10 ?_
  refine zz_nms (fun g9 eg9 => ?_)
  have h := h g9 eg9
  refine zz_aload_n K 0 dX2_begin_13 rfl rfl ?_
  refine zz_iload_n K 2 dX2_begin_14 rfl rfl ?_
  refine zp2_3_ K hw zin_X2_begin_X2 zlk_X2_begin_3 dX2_begin_15 ?_
  refine zz_nms (fun g10 eg10 => ?_)
  have h := h g10 eg10
  exact hret _ h _ _ dX2_begin_18
set_option maxRecDepth 100000 in
theorem zc2_begin (l : Launch) (D : va_G) (ad : Nat → Nat) (cy : Nat → ClassId) (v1 : Int32) (v2 : Int32) (w : Nat) (σ : zz_St) (Qp : zz_St → Prop) (hw : w < 3) (h : zq2_begin v1 v2 w σ Qp) : zz_Mv l yX2_begin wsX2_begin zrm2_begin D (tysC cy) (wC ad cy) nwC [.ref (ad (11 + w)), .int v1, .int v2] σ Qp :=
  zz_Mv.of zz_nwC (wC_ad ad cy) (by decide +kernel) rfl ⟨rfl, rfl⟩ (Nat.le_of_ble_eq_true rfl) (fun p e s m args below meth c A QW K hret => zu2_begin_0 K hw hret h)
theorem zcCb_m13 : (Int8.ofInt (-13)).toInt32 = (-13 : Int32) := by decide
theorem zcCb_m11 : (Int8.ofInt (-11)).toInt32 = (-11 : Int32) := by decide
abbrev zrm7_lackOf : Room := { frames := 0, cells := 0, slots := 0, locals := 0 }
set_option maxHeartbeats 4000000 in
set_option maxRecDepth 100000 in
theorem zu7_lackOf_0 {p : Program} {l : Launch} {e : Env} {s : State} {m : MethodId} {args : Array Value} {below : List Frame} {meth : Method} {c : Code} {Q : State → Prop} {D : va_G} {A : Nat → Prop} {ad : Nat → Nat} {cy : Nat → ClassId} {v0 : Int32} {v1 : Int32} {σ : zz_St} (K : zz_K p s m args c cX7_lackOf 2 RX7 wsX7_lackOf D (tysC cy) A (wC ad cy) nwC) {Qp : Int32 → Prop} (hret : ∀ (r : Int32), narrow .int (.int r) = .int r → Qp r → ∀ (pc : Nat) (lv : List (Nat × Value)), decode cX7_lackOf pc = .ok (.ireturn, 1) → zz_G p l e zrm7_lackOf s m args below meth c Q D A (wC ad cy) 2 pc lv [.int r] σ) (h : zq7_lackOf v0 v1 Qp) : zz_G p l e zrm7_lackOf s m args below meth c Q D A (wC ad cy) 2 0 [(0, .int v0), (1, .int v1)] [] σ := by
  unfold zq7_lackOf at h
  refine zz_iload_n K 0 dX7_lackOf_0 rfl rfl ?_
  refine zz_if_ge K 7 dX7_lackOf_1 rfl (fun c4 => ?_) (fun c4 => ?_)
  · have h := (And.left h) c4
    refine zz_iload_n K 1 dX7_lackOf_7 rfl rfl ?_
    refine zz_if_lt K 16 dX7_lackOf_8 rfl (fun c5 => ?_) (fun c5 => ?_)
    · have h := (And.left h) c5
      refine zz_bipush K dX7_lackOf_16 zcCb_m13 ?_
      refine zz_goto K 22 dX7_lackOf_18 rfl ?_
      exact hret _ rfl h _ _ dX7_lackOf_22
    · have h := (And.right h) c5
      refine zz_iload_n K 1 dX7_lackOf_11 rfl rfl ?_
      refine zz_iload_n K 0 dX7_lackOf_12 rfl rfl ?_
      refine zz_icmp_lt K 21 dX7_lackOf_13 rfl (fun c6 => ?_) (fun c6 => ?_)
      · have h := (And.left h) c6
        refine zz_iconst K dX7_lackOf_21 zcCi_0 ?_
        exact hret _ rfl h _ _ dX7_lackOf_22
      · have h := (And.right h) c6
        refine zz_bipush K dX7_lackOf_16 zcCb_m13 ?_
        refine zz_goto K 22 dX7_lackOf_18 rfl ?_
        exact hret _ rfl h _ _ dX7_lackOf_22
  · have h := (And.right h) c4
    refine zz_bipush K dX7_lackOf_4 zcCb_m11 ?_
    exact hret _ rfl h _ _ dX7_lackOf_6
set_option maxRecDepth 100000 in
theorem zc7_lackOf (l : Launch) (D : va_G) (ad : Nat → Nat) (cy : Nat → ClassId) (v0 : Int32) (v1 : Int32) (σ : zz_St) (Qp : Int32 → Prop) (h : zq7_lackOf v0 v1 Qp) : zz_Mi l yX7_lackOf wsX7_lackOf zrm7_lackOf D (tysC cy) (wC ad cy) nwC [.int v0, .int v1] σ (fun r σ2 => σ2 = σ ∧ Qp r) :=
  zz_Mi.of zz_nwC (wC_ad ad cy) (by decide +kernel) rfl ⟨rfl, rfl⟩ (Nat.le_of_ble_eq_true rfl) (fun p e s m args below meth c A QW K hret => zu7_lackOf_0 K  (fun r hn hq pc lv hd => hret r σ hn ⟨rfl, hq⟩ pc lv hd) h)
theorem zin_X2_lackAt_X2 : ∀ w ∈ wsX20, w ∈ wsX2_lackAt := fun w h => List.mem_cons_of_mem _ (List.mem_append_right _ h)
theorem zlk_X2_lackAt_1 : Cond.fieldLink RX2 22 "SolidsRolled$Rack" "size" "I" ∈ wsX2_lackAt := List.mem_of_getElem? (i := 1) rfl
theorem zdsC_yX7_lackOf_s : yX7_lackOf.cls ≠ "java/lang/invoke/MethodHandle" ∧ yX7_lackOf.cls ≠ "java/lang/invoke/VarHandle" ∧ (parseMethodDescriptor yX7_lackOf.desc).map (fun d => d.parameters.length) = some 2 := by decide +kernel
theorem zlk_X2_lackAt_3 : Cond.initialized RX7 ∈ wsX2_lackAt := List.mem_of_getElem? (i := 3) rfl
theorem zlk_X2_lackAt_2 : Cond.static yX7_lackOf ∈ wsX2_lackAt := List.mem_of_getElem? (i := 2) rfl
abbrev zrm2_lackAt : Room := { frames := 1, cells := 0, slots := 0, locals := 21 }
set_option maxHeartbeats 4000000 in
set_option maxRecDepth 100000 in
theorem zu2_lackAt_0 {p : Program} {l : Launch} {e : Env} {s : State} {m : MethodId} {args : Array Value} {below : List Frame} {meth : Method} {c : Code} {Q : State → Prop} {D : va_G} {A : Nat → Prop} {ad : Nat → Nat} {cy : Nat → ClassId} {v1 : Int32} {w : Nat} {σ : zz_St} (K : zz_K p s m args c cX2_lackAt 2 RX2 wsX2_lackAt D (tysC cy) A (wC ad cy) nwC) {Qp : Int32 → Prop} (hw : w < 3) (hret : ∀ (r : Int32), narrow .int (.int r) = .int r → Qp r → ∀ (pc : Nat) (lv : List (Nat × Value)), decode cX2_lackAt pc = .ok (.ireturn, 1) → zz_G p l e zrm2_lackAt s m args below meth c Q D A (wC ad cy) 2 pc lv [.int r] σ) (h : zq2_lackAt v1 w σ Qp) : zz_G p l e zrm2_lackAt s m args below meth c Q D A (wC ad cy) 2 0 [(0, .ref (ad (11 + w))), (1, .int v1)] [] σ := by
  unfold zq2_lackAt at h
  refine zz_aload_n K 0 dX2_lackAt_0 rfl rfl ?_
  refine zg2_3_ K hw zin_X2_lackAt_X2 zlk_X2_lackAt_1 dX2_lackAt_1 ?_
  refine zz_iload_n K 1 dX2_lackAt_4 rfl rfl ?_
  refine zz_callNi1 K zz_nwC [.int ((σ).1 (28 + w)), .int v1] (zc7_lackOf l D ad cy ((σ).1 (28 + w)) v1 σ _  h) ggX2_lackAt_X7_lackOf rfl ⟨rfl, rfl⟩ zdsC_yX7_lackOf_s ⟨Nat.le_of_ble_eq_true rfl, Nat.le_of_ble_eq_true rfl⟩ (List.mem_of_getElem? (i := 3) rfl) zlk_X2_lackAt_3 zlk_X2_lackAt_2 rfl rfl (Nat.le_of_ble_eq_true rfl) dX2_lackAt_5 (fun r2 h => ?_)
  exact hret _ rfl h _ _ dX2_lackAt_8
set_option maxRecDepth 100000 in
theorem zc2_lackAt (l : Launch) (D : va_G) (ad : Nat → Nat) (cy : Nat → ClassId) (v1 : Int32) (w : Nat) (σ : zz_St) (Qp : Int32 → Prop) (hw : w < 3) (h : zq2_lackAt v1 w σ Qp) : zz_Mi l yX2_lackAt wsX2_lackAt zrm2_lackAt D (tysC cy) (wC ad cy) nwC [.ref (ad (11 + w)), .int v1] σ (fun r σ2 => σ2 = σ ∧ Qp r) :=
  zz_Mi.of zz_nwC (wC_ad ad cy) (by decide +kernel) rfl ⟨rfl, rfl⟩ (Nat.le_of_ble_eq_true rfl) (fun p e s m args below meth c A QW K hret => zu2_lackAt_0 K hw (fun r hn hq pc lv hd => hret r σ hn ⟨rfl, hq⟩ pc lv hd) h)
theorem zin_X2_store_X2 : ∀ w ∈ wsX20, w ∈ wsX2_store := fun w h => List.mem_cons_of_mem _ (List.mem_append_right _ h)
theorem zlk_X2_store_1 : Cond.fieldLink RX2 9 "SolidsRolled$Rack" "kinds" "[I" ∈ wsX2_store := List.mem_of_getElem? (i := 1) rfl
theorem zlk_X2_store_2 : Cond.fieldLink RX2 15 "SolidsRolled$Rack" "below" "[I" ∈ wsX2_store := List.mem_of_getElem? (i := 2) rfl
abbrev zrm2_store : Room := { frames := 0, cells := 0, slots := 0, locals := 0 }
set_option maxHeartbeats 4000000 in
set_option maxRecDepth 100000 in
theorem zu2_store_0 {p : Program} {l : Launch} {e : Env} {s : State} {m : MethodId} {args : Array Value} {below : List Frame} {meth : Method} {c : Code} {Q : State → Prop} {D : va_G} {A : Nat → Prop} {ad : Nat → Nat} {cy : Nat → ClassId} {v1 : Int32} {v2 : Int32} {v3 : Int32} {w : Nat} {σ : zz_St} (K : zz_K p s m args c cX2_store 4 RX2 wsX2_store D (tysC cy) A (wC ad cy) nwC) {Qp : zz_St → Prop} (hw : w < 3) (hret : ∀ (σ2 : zz_St), Qp σ2 → ∀ (pc : Nat) (lv : List (Nat × Value)), decode cX2_store pc = .ok (.return_, 1) → zz_G p l e zrm2_store s m args below meth c Q D A (wC ad cy) 4 pc lv [] σ2) (h : zq2_store v1 v2 v3 w σ Qp) : zz_G p l e zrm2_store s m args below meth c Q D A (wC ad cy) 4 0 [(0, .ref (ad (11 + w))), (1, .int v1), (2, .int v2), (3, .int v3)] [] σ := by
  unfold zq2_store at h
  refine zz_aload_n K 0 dX2_store_0 rfl rfl ?_
  refine zg2_0_ K hw zin_X2_store_X2 zlk_X2_store_1 dX2_store_1 ?_
  refine zz_iload_n K 1 dX2_store_4 rfl rfl ?_
  refine zz_iload_n K 2 dX2_store_5 rfl rfl ?_
  obtain ⟨hin, h⟩ := h
  refine zz_iastore K 0 (σ2 := zz_A σ (37 + w) (upd ((σ).2.1 (37 + w)) v1.toNatClampNeg v2)) (wC_at_37_ ad cy σ _ hw) (wC_set_37_ ad cy σ _ _ hw) rfl hin dX2_store_6 ?_
  refine zz_nms (fun g3 eg3 => ?_)
  have h := h g3 eg3
  refine zz_aload_n K 0 dX2_store_7 rfl rfl ?_
  refine zg2_1_ K hw zin_X2_store_X2 zlk_X2_store_2 dX2_store_8 ?_
  refine zz_iload_n K 1 dX2_store_11 rfl rfl ?_
  refine zz_iload_n K 3 dX2_store_12 rfl rfl ?_
  obtain ⟨hin, h⟩ := h
  refine zz_iastore K 0 (σ2 := zz_A g3 (40 + w) (upd (g3.2.1 (40 + w)) v1.toNatClampNeg v3)) (wC_at_40_ ad cy g3 _ hw) (wC_set_40_ ad cy g3 _ _ hw) rfl hin dX2_store_13 ?_
  refine zz_nms (fun g4 eg4 => ?_)
  have h := h g4 eg4
  exact hret _ h _ _ dX2_store_14
set_option maxRecDepth 100000 in
theorem zc2_store (l : Launch) (D : va_G) (ad : Nat → Nat) (cy : Nat → ClassId) (v1 : Int32) (v2 : Int32) (v3 : Int32) (w : Nat) (σ : zz_St) (Qp : zz_St → Prop) (hw : w < 3) (h : zq2_store v1 v2 v3 w σ Qp) : zz_Mv l yX2_store wsX2_store zrm2_store D (tysC cy) (wC ad cy) nwC [.ref (ad (11 + w)), .int v1, .int v2, .int v3] σ Qp :=
  zz_Mv.of zz_nwC (wC_ad ad cy) (by decide +kernel) rfl ⟨rfl, rfl⟩ (Nat.le_of_ble_eq_true rfl) (fun p e s m args below meth c A QW K hret => zu2_store_0 K hw hret h)
theorem zin_X2_empty_X2 : ∀ w ∈ wsX20, w ∈ wsX2_empty := fun w h => List.mem_cons_of_mem _ (List.mem_append_right _ h)
theorem zlk_X2_empty_1 : Cond.fieldLink RX2 9 "SolidsRolled$Rack" "kinds" "[I" ∈ wsX2_empty := List.mem_of_getElem? (i := 1) rfl
abbrev zrm2_empty : Room := { frames := 0, cells := 0, slots := 0, locals := 0 }
set_option maxHeartbeats 4000000 in
set_option maxRecDepth 100000 in
theorem zu2_empty_0 {p : Program} {l : Launch} {e : Env} {s : State} {m : MethodId} {args : Array Value} {below : List Frame} {meth : Method} {c : Code} {Q : State → Prop} {D : va_G} {A : Nat → Prop} {ad : Nat → Nat} {cy : Nat → ClassId} {v1 : Int32} {w : Nat} {σ : zz_St} (K : zz_K p s m args c cX2_empty 2 RX2 wsX2_empty D (tysC cy) A (wC ad cy) nwC) {Qp : zz_St → Prop} (hw : w < 3) (hret : ∀ (σ2 : zz_St), Qp σ2 → ∀ (pc : Nat) (lv : List (Nat × Value)), decode cX2_empty pc = .ok (.return_, 1) → zz_G p l e zrm2_empty s m args below meth c Q D A (wC ad cy) 2 pc lv [] σ2) (h : zq2_empty v1 w σ Qp) : zz_G p l e zrm2_empty s m args below meth c Q D A (wC ad cy) 2 0 [(0, .ref (ad (11 + w))), (1, .int v1)] [] σ := by
  unfold zq2_empty at h
  refine zz_aload_n K 0 dX2_empty_0 rfl rfl ?_
  refine zg2_0_ K hw zin_X2_empty_X2 zlk_X2_empty_1 dX2_empty_1 ?_
  refine zz_iload_n K 1 dX2_empty_4 rfl rfl ?_
  refine zz_iconst K dX2_empty_5 zcCi_m1 ?_
  obtain ⟨hin, h⟩ := h
  refine zz_iastore K 0 (σ2 := zz_A σ (37 + w) (upd ((σ).2.1 (37 + w)) v1.toNatClampNeg (-1 : Int32))) (wC_at_37_ ad cy σ _ hw) (wC_set_37_ ad cy σ _ _ hw) rfl hin dX2_empty_6 ?_
  refine zz_nms (fun g2 eg2 => ?_)
  have h := h g2 eg2
  exact hret _ h _ _ dX2_empty_7
set_option maxRecDepth 100000 in
theorem zc2_empty (l : Launch) (D : va_G) (ad : Nat → Nat) (cy : Nat → ClassId) (v1 : Int32) (w : Nat) (σ : zz_St) (Qp : zz_St → Prop) (hw : w < 3) (h : zq2_empty v1 w σ Qp) : zz_Mv l yX2_empty wsX2_empty zrm2_empty D (tysC cy) (wC ad cy) nwC [.ref (ad (11 + w)), .int v1] σ Qp :=
  zz_Mv.of zz_nwC (wC_ad ad cy) (by decide +kernel) rfl ⟨rfl, rfl⟩ (Nat.le_of_ble_eq_true rfl) (fun p e s m args below meth c A QW K hret => zu2_empty_0 K hw hret h)
theorem zin_X2_isEmptyAt_X2 : ∀ w ∈ wsX20, w ∈ wsX2_isEmptyAt := fun w h => List.mem_cons_of_mem _ (List.mem_append_right _ h)
theorem zlk_X2_isEmptyAt_1 : Cond.fieldLink RX2 9 "SolidsRolled$Rack" "kinds" "[I" ∈ wsX2_isEmptyAt := List.mem_of_getElem? (i := 1) rfl
abbrev zrm2_isEmptyAt : Room := { frames := 0, cells := 0, slots := 0, locals := 0 }
set_option maxHeartbeats 4000000 in
set_option maxRecDepth 100000 in
theorem zu2_isEmptyAt_0 {p : Program} {l : Launch} {e : Env} {s : State} {m : MethodId} {args : Array Value} {below : List Frame} {meth : Method} {c : Code} {Q : State → Prop} {D : va_G} {A : Nat → Prop} {ad : Nat → Nat} {cy : Nat → ClassId} {v1 : Int32} {w : Nat} {σ : zz_St} (K : zz_K p s m args c cX2_isEmptyAt 2 RX2 wsX2_isEmptyAt D (tysC cy) A (wC ad cy) nwC) {Qp : Int32 → Prop} (hw : w < 3) (hret : ∀ (r : Int32), narrow .boolean (.int r) = .int r → Qp r → ∀ (pc : Nat) (lv : List (Nat × Value)), decode cX2_isEmptyAt pc = .ok (.ireturn, 1) → zz_G p l e zrm2_isEmptyAt s m args below meth c Q D A (wC ad cy) 2 pc lv [.int r] σ) (h : zq2_isEmptyAt v1 w σ Qp) : zz_G p l e zrm2_isEmptyAt s m args below meth c Q D A (wC ad cy) 2 0 [(0, .ref (ad (11 + w))), (1, .int v1)] [] σ := by
  unfold zq2_isEmptyAt at h
  refine zz_aload_n K 0 dX2_isEmptyAt_0 rfl rfl ?_
  refine zg2_0_ K hw zin_X2_isEmptyAt_X2 zlk_X2_isEmptyAt_1 dX2_isEmptyAt_1 ?_
  refine zz_iload_n K 1 dX2_isEmptyAt_4 rfl rfl ?_
  obtain ⟨hin, h⟩ := h
  refine zz_iaload K 0 (wC_at_37_ ad cy σ _ hw) rfl hin dX2_isEmptyAt_5 ?_
  refine zz_iconst K dX2_isEmptyAt_6 zcCi_m1 ?_
  refine zz_icmp_ne K 14 dX2_isEmptyAt_7 rfl (fun c2 => ?_) (fun c2 => ?_)
  · have h := (And.left h) c2
    refine zz_iconst K dX2_isEmptyAt_14 zcCi_0 ?_
    exact hret _ rfl h _ _ dX2_isEmptyAt_15
  · have h := (And.right h) c2
    refine zz_iconst K dX2_isEmptyAt_10 zcCi_1 ?_
    refine zz_goto K 15 dX2_isEmptyAt_11 rfl ?_
    exact hret _ rfl h _ _ dX2_isEmptyAt_15
set_option maxRecDepth 100000 in
theorem zc2_isEmptyAt (l : Launch) (D : va_G) (ad : Nat → Nat) (cy : Nat → ClassId) (v1 : Int32) (w : Nat) (σ : zz_St) (Qp : Int32 → Prop) (hw : w < 3) (h : zq2_isEmptyAt v1 w σ Qp) : zz_Mi l yX2_isEmptyAt wsX2_isEmptyAt zrm2_isEmptyAt D (tysC cy) (wC ad cy) nwC [.ref (ad (11 + w)), .int v1] σ (fun r σ2 => σ2 = σ ∧ Qp r) :=
  zz_Mi.of zz_nwC (wC_ad ad cy) (by decide +kernel) rfl ⟨rfl, rfl⟩ (Nat.le_of_ble_eq_true rfl) (fun p e s m args below meth c A QW K hret => zu2_isEmptyAt_0 K hw (fun r hn hq pc lv hd => hret r σ hn ⟨rfl, hq⟩ pc lv hd) h)
theorem zin_X2_copyFrom_X2 : ∀ w ∈ wsX20, w ∈ wsX2_copyFrom := fun w h => List.mem_cons_of_mem _ (List.mem_append_right _ h)
theorem zlk_X2_copyFrom_1 : Cond.fieldLink RX2 9 "SolidsRolled$Rack" "kinds" "[I" ∈ wsX2_copyFrom := List.mem_of_getElem? (i := 1) rfl
theorem zcCb_9 : (Int8.ofInt (9)).toInt32 = (9 : Int32) := by decide
theorem zlk_X2_copyFrom_2 : Cond.methodLink RX2 35 arraycopyName ∈ wsX2_copyFrom := List.mem_of_getElem? (i := 2) rfl
theorem zlk_X2_copyFrom_3 : Cond.native arraycopyName ∈ wsX2_copyFrom := List.mem_of_getElem? (i := 3) rfl
theorem zlk_X2_copyFrom_4 : Cond.static arraycopyName ∈ wsX2_copyFrom := List.mem_of_getElem? (i := 4) rfl
theorem zlk_X2_copyFrom_5 : Cond.initialized "java/lang/System" ∈ wsX2_copyFrom := List.mem_of_getElem? (i := 5) rfl
theorem zlk_X2_copyFrom_6 : Cond.fieldLink RX2 15 "SolidsRolled$Rack" "below" "[I" ∈ wsX2_copyFrom := List.mem_of_getElem? (i := 6) rfl
theorem zlk_X2_copyFrom_7 : Cond.fieldLink RX2 18 "SolidsRolled$Rack" "madeFor" "I" ∈ wsX2_copyFrom := List.mem_of_getElem? (i := 7) rfl
theorem zlk_X2_copyFrom_8 : Cond.fieldLink RX2 22 "SolidsRolled$Rack" "size" "I" ∈ wsX2_copyFrom := List.mem_of_getElem? (i := 8) rfl
abbrev zrm2_copyFrom : Room := { frames := 1, cells := 0, slots := 0, locals := 40 }
set_option maxHeartbeats 4000000 in
set_option maxRecDepth 100000 in
theorem zu2_copyFrom_0 {p : Program} {l : Launch} {e : Env} {s : State} {m : MethodId} {args : Array Value} {below : List Frame} {meth : Method} {c : Code} {Q : State → Prop} {D : va_G} {A : Nat → Prop} {ad : Nat → Nat} {cy : Nat → ClassId} {v1 : Nat} {w : Nat} {σ : zz_St} (K : zz_K p s m args c cX2_copyFrom 2 RX2 wsX2_copyFrom D (tysC cy) A (wC ad cy) nwC) {Qp : zz_St → Prop} (hv1 : v1 < 3) (hw : w < 3) (hret : ∀ (σ2 : zz_St), Qp σ2 → ∀ (pc : Nat) (lv : List (Nat × Value)), decode cX2_copyFrom pc = .ok (.return_, 1) → zz_G p l e zrm2_copyFrom s m args below meth c Q D A (wC ad cy) 2 pc lv [] σ2) (h : zq2_copyFrom v1 w σ Qp) : zz_G p l e zrm2_copyFrom s m args below meth c Q D A (wC ad cy) 2 0 [(0, .ref (ad (11 + w))), (1, .ref (ad (11 + v1)))] [] σ := by
  unfold zq2_copyFrom at h
  refine zz_aload_n K 1 dX2_copyFrom_0 rfl rfl ?_
  refine zg2_0_ K hv1 zin_X2_copyFrom_X2 zlk_X2_copyFrom_1 dX2_copyFrom_1 ?_
  refine zz_iconst K dX2_copyFrom_4 zcCi_0 ?_
  refine zz_aload_n K 0 dX2_copyFrom_5 rfl rfl ?_
  refine zg2_0_ K hw zin_X2_copyFrom_X2 zlk_X2_copyFrom_1 dX2_copyFrom_6 ?_
  refine zz_iconst K dX2_copyFrom_9 zcCi_0 ?_
  refine zz_bipush K dX2_copyFrom_10 zcCb_9 ?_
  obtain ⟨q1, q2, q3, q4, q5, h⟩ := h
  refine zz_copy K (σ2 := zz_A σ (37 + w) (va_cpy ((σ).2.1 (37 + v1)) ((σ).2.1 (37 + w)) (0 : Int32).toNatClampNeg (0 : Int32).toNatClampNeg (9 : Int32).toNatClampNeg)) 0 0 zlk_X2_copyFrom_2 zlk_X2_copyFrom_3 zlk_X2_copyFrom_4 zlk_X2_copyFrom_5 (wC_at_37_ ad cy σ _ hv1) (wC_at_37_ ad cy σ _ hw) (wC_set_37_ ad cy σ _ _ hw) rfl rfl q1 q2 q3 q4 q5 (Nat.le_of_ble_eq_true rfl) (Nat.le_of_ble_eq_true rfl) dX2_copyFrom_12 ?_
  refine zz_nms (fun g5 eg5 => ?_)
  have h := h g5 eg5
  refine zz_aload_n K 1 dX2_copyFrom_15 rfl rfl ?_
  refine zg2_1_ K hv1 zin_X2_copyFrom_X2 zlk_X2_copyFrom_6 dX2_copyFrom_16 ?_
  refine zz_iconst K dX2_copyFrom_19 zcCi_0 ?_
  refine zz_aload_n K 0 dX2_copyFrom_20 rfl rfl ?_
  refine zg2_1_ K hw zin_X2_copyFrom_X2 zlk_X2_copyFrom_6 dX2_copyFrom_21 ?_
  refine zz_iconst K dX2_copyFrom_24 zcCi_0 ?_
  refine zz_bipush K dX2_copyFrom_25 zcCb_9 ?_
  obtain ⟨q1, q2, q3, q4, q5, h⟩ := h
  refine zz_copy K (σ2 := zz_A g5 (40 + w) (va_cpy (g5.2.1 (40 + v1)) (g5.2.1 (40 + w)) (0 : Int32).toNatClampNeg (0 : Int32).toNatClampNeg (9 : Int32).toNatClampNeg)) 0 0 zlk_X2_copyFrom_2 zlk_X2_copyFrom_3 zlk_X2_copyFrom_4 zlk_X2_copyFrom_5 (wC_at_40_ ad cy g5 _ hv1) (wC_at_40_ ad cy g5 _ hw) (wC_set_40_ ad cy g5 _ _ hw) rfl rfl q1 q2 q3 q4 q5 (Nat.le_of_ble_eq_true rfl) (Nat.le_of_ble_eq_true rfl) dX2_copyFrom_27 ?_
  refine zz_nms (fun g6 eg6 => ?_)
  have h := h g6 eg6
  refine zz_aload_n K 0 dX2_copyFrom_30 rfl rfl ?_
  refine zz_aload_n K 1 dX2_copyFrom_31 rfl rfl ?_
  refine zg2_2_ K hv1 zin_X2_copyFrom_X2 zlk_X2_copyFrom_7 dX2_copyFrom_32 ?_
  refine zp2_2_ K hw zin_X2_copyFrom_X2 zlk_X2_copyFrom_7 dX2_copyFrom_35 ?_
  refine zz_nms (fun g7 eg7 => ?_)
  have h := h g7 eg7
  refine zz_aload_n K 0 dX2_copyFrom_38 rfl rfl ?_
  refine zz_aload_n K 1 dX2_copyFrom_39 rfl rfl ?_
  refine zg2_3_ K hv1 zin_X2_copyFrom_X2 zlk_X2_copyFrom_8 dX2_copyFrom_40 ?_
  refine zp2_3_ K hw zin_X2_copyFrom_X2 zlk_X2_copyFrom_8 dX2_copyFrom_43 ?_
  refine zz_nms (fun g8 eg8 => ?_)
  have h := h g8 eg8
  exact hret _ h _ _ dX2_copyFrom_46
set_option maxRecDepth 100000 in
theorem zc2_copyFrom (l : Launch) (D : va_G) (ad : Nat → Nat) (cy : Nat → ClassId) (v1 : Nat) (w : Nat) (σ : zz_St) (Qp : zz_St → Prop) (hv1 : v1 < 3) (hw : w < 3) (h : zq2_copyFrom v1 w σ Qp) : zz_Mv l yX2_copyFrom wsX2_copyFrom zrm2_copyFrom D (tysC cy) (wC ad cy) nwC [.ref (ad (11 + w)), .ref (ad (11 + v1))] σ Qp :=
  zz_Mv.of zz_nwC (wC_ad ad cy) (by decide +kernel) rfl ⟨rfl, rfl⟩ (Nat.le_of_ble_eq_true rfl) (fun p e s m args below meth c A QW K hret => zu2_copyFrom_0 K hv1 hw hret h)
theorem zin_X3_isMissing_X3 : ∀ w ∈ wsX30, w ∈ wsX3_isMissing := fun w h => List.mem_cons_of_mem _ (List.mem_append_right _ h)
theorem zlk_X3_isMissing_1 : Cond.fieldLink RX3 15 "SolidsRolled$Row" "size" "I" ∈ wsX3_isMissing := List.mem_of_getElem? (i := 1) rfl
abbrev zrm3_isMissing : Room := { frames := 0, cells := 0, slots := 0, locals := 0 }
set_option maxHeartbeats 4000000 in
set_option maxRecDepth 100000 in
theorem zu3_isMissing_0 {p : Program} {l : Launch} {e : Env} {s : State} {m : MethodId} {args : Array Value} {below : List Frame} {meth : Method} {c : Code} {Q : State → Prop} {D : va_G} {A : Nat → Prop} {ad : Nat → Nat} {cy : Nat → ClassId} {w : Nat} {σ : zz_St} (K : zz_K p s m args c cX3_isMissing 1 RX3 wsX3_isMissing D (tysC cy) A (wC ad cy) nwC) {Qp : Int32 → Prop} (hw : w < 3) (hret : ∀ (r : Int32), narrow .boolean (.int r) = .int r → Qp r → ∀ (pc : Nat) (lv : List (Nat × Value)), decode cX3_isMissing pc = .ok (.ireturn, 1) → zz_G p l e zrm3_isMissing s m args below meth c Q D A (wC ad cy) 1 pc lv [.int r] σ) (h : zq3_isMissing w σ Qp) : zz_G p l e zrm3_isMissing s m args below meth c Q D A (wC ad cy) 1 0 [(0, .ref (ad (8 + w)))] [] σ := by
  unfold zq3_isMissing at h
  refine zz_aload_n K 0 dX3_isMissing_0 rfl rfl ?_
  refine zg3_1_ K hw zin_X3_isMissing_X3 zlk_X3_isMissing_1 dX3_isMissing_1 ?_
  refine zz_if_ge K 11 dX3_isMissing_4 rfl (fun c2 => ?_) (fun c2 => ?_)
  · have h := (And.left h) c2
    refine zz_iconst K dX3_isMissing_11 zcCi_0 ?_
    exact hret _ rfl h _ _ dX3_isMissing_12
  · have h := (And.right h) c2
    refine zz_iconst K dX3_isMissing_7 zcCi_1 ?_
    refine zz_goto K 12 dX3_isMissing_8 rfl ?_
    exact hret _ rfl h _ _ dX3_isMissing_12
set_option maxRecDepth 100000 in
theorem zc3_isMissing (l : Launch) (D : va_G) (ad : Nat → Nat) (cy : Nat → ClassId) (w : Nat) (σ : zz_St) (Qp : Int32 → Prop) (hw : w < 3) (h : zq3_isMissing w σ Qp) : zz_Mi l yX3_isMissing wsX3_isMissing zrm3_isMissing D (tysC cy) (wC ad cy) nwC [.ref (ad (8 + w))] σ (fun r σ2 => σ2 = σ ∧ Qp r) :=
  zz_Mi.of zz_nwC (wC_ad ad cy) (by decide +kernel) rfl ⟨rfl, rfl⟩ (Nat.le_of_ble_eq_true rfl) (fun p e s m args below meth c A QW K hret => zu3_isMissing_0 K hw (fun r hn hq pc lv hd => hret r σ hn ⟨rfl, hq⟩ pc lv hd) h)
theorem zin_X3_begin_X3 : ∀ w ∈ wsX30, w ∈ wsX3_begin := fun w h => List.mem_cons_of_mem _ (List.mem_append_right _ h)
theorem zlk_X3_begin_1 : Cond.fieldLink RX3 9 "SolidsRolled$Row" "values" "[I" ∈ wsX3_begin := List.mem_of_getElem? (i := 1) rfl
theorem zlk_X3_begin_2 : Cond.fieldLink RX3 15 "SolidsRolled$Row" "size" "I" ∈ wsX3_begin := List.mem_of_getElem? (i := 2) rfl
abbrev zrm3_begin : Room := { frames := 1, cells := 0, slots := 0, locals := 23 }
set_option maxHeartbeats 4000000 in
set_option maxRecDepth 100000 in
theorem zu3_begin_0 {p : Program} {l : Launch} {e : Env} {s : State} {m : MethodId} {args : Array Value} {below : List Frame} {meth : Method} {c : Code} {Q : State → Prop} {D : va_G} {A : Nat → Prop} {ad : Nat → Nat} {cy : Nat → ClassId} {v1 : Int32} {w : Nat} {σ : zz_St} (K : zz_K p s m args c cX3_begin 2 RX3 wsX3_begin D (tysC cy) A (wC ad cy) nwC) {Qp : zz_St → Prop} (hw : w < 3) (hret : ∀ (σ2 : zz_St), Qp σ2 → ∀ (pc : Nat) (lv : List (Nat × Value)), decode cX3_begin pc = .ok (.return_, 1) → zz_G p l e zrm3_begin s m args below meth c Q D A (wC ad cy) 2 pc lv [] σ2) (h : zq3_begin v1 w σ Qp) : zz_G p l e zrm3_begin s m args below meth c Q D A (wC ad cy) 2 0 [(0, .ref (ad (8 + w))), (1, .int v1)] [] σ := by
  unfold zq3_begin at h
  refine zz_aload_n K 0 dX3_begin_0 rfl rfl ?_
  refine zg3_0_ K hw zin_X3_begin_X3 zlk_X3_begin_1 dX3_begin_1 ?_
  refine zz_iconst K dX3_begin_4 zcCi_0 ?_
  refine zz_fill K 0 (fun z => zz_A σ (34 + w) z) (wC_at_34_ ad cy σ _ hw) (fun z => wC_set_34_ ad cy σ z _ hw) rfl (by decide) gX3_begin_J7_fill_53178 (Nat.le_of_ble_eq_true rfl) (Nat.le_of_ble_eq_true rfl) (Nat.le_of_ble_eq_true rfl) dX3_begin_5 (fun f5 e6 => ?_)
  have h := h f5 e6
  refine zz_nms (fun g7 eg7 => ?_)
  have h := h g7 eg7
  refine zz_aload_n K 0 dX3_begin_8 rfl rfl ?_
  refine zz_iload_n K 1 dX3_begin_9 rfl rfl ?_
  refine zp3_1_ K hw zin_X3_begin_X3 zlk_X3_begin_2 dX3_begin_10 ?_
  refine zz_nms (fun g8 eg8 => ?_)
  have h := h g8 eg8
  exact hret _ h _ _ dX3_begin_13
set_option maxRecDepth 100000 in
theorem zc3_begin (l : Launch) (D : va_G) (ad : Nat → Nat) (cy : Nat → ClassId) (v1 : Int32) (w : Nat) (σ : zz_St) (Qp : zz_St → Prop) (hw : w < 3) (h : zq3_begin v1 w σ Qp) : zz_Mv l yX3_begin wsX3_begin zrm3_begin D (tysC cy) (wC ad cy) nwC [.ref (ad (8 + w)), .int v1] σ Qp :=
  zz_Mv.of zz_nwC (wC_ad ad cy) (by decide +kernel) rfl ⟨rfl, rfl⟩ (Nat.le_of_ble_eq_true rfl) (fun p e s m args below meth c A QW K hret => zu3_begin_0 K hw hret h)
theorem zin_X3_lackAt_X3 : ∀ w ∈ wsX30, w ∈ wsX3_lackAt := fun w h => List.mem_cons_of_mem _ (List.mem_append_right _ h)
theorem zlk_X3_lackAt_1 : Cond.fieldLink RX3 15 "SolidsRolled$Row" "size" "I" ∈ wsX3_lackAt := List.mem_of_getElem? (i := 1) rfl
theorem zlk_X3_lackAt_3 : Cond.initialized RX7 ∈ wsX3_lackAt := List.mem_of_getElem? (i := 3) rfl
theorem zlk_X3_lackAt_2 : Cond.static yX7_lackOf ∈ wsX3_lackAt := List.mem_of_getElem? (i := 2) rfl
abbrev zrm3_lackAt : Room := { frames := 1, cells := 0, slots := 0, locals := 21 }
set_option maxHeartbeats 4000000 in
set_option maxRecDepth 100000 in
theorem zu3_lackAt_0 {p : Program} {l : Launch} {e : Env} {s : State} {m : MethodId} {args : Array Value} {below : List Frame} {meth : Method} {c : Code} {Q : State → Prop} {D : va_G} {A : Nat → Prop} {ad : Nat → Nat} {cy : Nat → ClassId} {v1 : Int32} {w : Nat} {σ : zz_St} (K : zz_K p s m args c cX3_lackAt 2 RX3 wsX3_lackAt D (tysC cy) A (wC ad cy) nwC) {Qp : Int32 → Prop} (hw : w < 3) (hret : ∀ (r : Int32), narrow .int (.int r) = .int r → Qp r → ∀ (pc : Nat) (lv : List (Nat × Value)), decode cX3_lackAt pc = .ok (.ireturn, 1) → zz_G p l e zrm3_lackAt s m args below meth c Q D A (wC ad cy) 2 pc lv [.int r] σ) (h : zq3_lackAt v1 w σ Qp) : zz_G p l e zrm3_lackAt s m args below meth c Q D A (wC ad cy) 2 0 [(0, .ref (ad (8 + w))), (1, .int v1)] [] σ := by
  unfold zq3_lackAt at h
  refine zz_aload_n K 0 dX3_lackAt_0 rfl rfl ?_
  refine zg3_1_ K hw zin_X3_lackAt_X3 zlk_X3_lackAt_1 dX3_lackAt_1 ?_
  refine zz_iload_n K 1 dX3_lackAt_4 rfl rfl ?_
  refine zz_callNi1 K zz_nwC [.int ((σ).1 (22 + w)), .int v1] (zc7_lackOf l D ad cy ((σ).1 (22 + w)) v1 σ _  h) ggX3_lackAt_X7_lackOf rfl ⟨rfl, rfl⟩ zdsC_yX7_lackOf_s ⟨Nat.le_of_ble_eq_true rfl, Nat.le_of_ble_eq_true rfl⟩ (List.mem_of_getElem? (i := 2) rfl) zlk_X3_lackAt_3 zlk_X3_lackAt_2 rfl rfl (Nat.le_of_ble_eq_true rfl) dX3_lackAt_5 (fun r2 h => ?_)
  exact hret _ rfl h _ _ dX3_lackAt_8
set_option maxRecDepth 100000 in
theorem zc3_lackAt (l : Launch) (D : va_G) (ad : Nat → Nat) (cy : Nat → ClassId) (v1 : Int32) (w : Nat) (σ : zz_St) (Qp : Int32 → Prop) (hw : w < 3) (h : zq3_lackAt v1 w σ Qp) : zz_Mi l yX3_lackAt wsX3_lackAt zrm3_lackAt D (tysC cy) (wC ad cy) nwC [.ref (ad (8 + w)), .int v1] σ (fun r σ2 => σ2 = σ ∧ Qp r) :=
  zz_Mi.of zz_nwC (wC_ad ad cy) (by decide +kernel) rfl ⟨rfl, rfl⟩ (Nat.le_of_ble_eq_true rfl) (fun p e s m args below meth c A QW K hret => zu3_lackAt_0 K hw (fun r hn hq pc lv hd => hret r σ hn ⟨rfl, hq⟩ pc lv hd) h)
theorem zin_X4_add_X4 : ∀ w ∈ wsX40, w ∈ wsX4_add := fun w h => List.mem_cons_of_mem _ (List.mem_append_right _ h)
theorem zlk_X4_add_1 : Cond.fieldLink RX4 9 "SolidsRolled$Search" "steps" "[I" ∈ wsX4_add := List.mem_of_getElem? (i := 1) rfl
theorem zlk_X4_add_2 : Cond.fieldLink RX4 15 "SolidsRolled$Search" "cameFrom" "[I" ∈ wsX4_add := List.mem_of_getElem? (i := 2) rfl
theorem zlk_X4_add_3 : Cond.fieldLink RX4 18 "SolidsRolled$Search" "cameBy" "[I" ∈ wsX4_add := List.mem_of_getElem? (i := 3) rfl
theorem zlk_X4_add_4 : Cond.fieldLink RX4 21 "SolidsRolled$Search" "queue" "[I" ∈ wsX4_add := List.mem_of_getElem? (i := 4) rfl
theorem zlk_X4_add_5 : Cond.fieldLink RX4 33 "SolidsRolled$Search" "size" "I" ∈ wsX4_add := List.mem_of_getElem? (i := 5) rfl
abbrev zrm4_add : Room := { frames := 0, cells := 0, slots := 0, locals := 0 }
set_option maxHeartbeats 4000000 in
set_option maxRecDepth 100000 in
theorem zu4_add_0 {p : Program} {l : Launch} {e : Env} {s : State} {m : MethodId} {args : Array Value} {below : List Frame} {meth : Method} {c : Code} {Q : State → Prop} {D : va_G} {A : Nat → Prop} {ad : Nat → Nat} {cy : Nat → ClassId} {v1 : Int32} {v2 : Int32} {v3 : Int32} {v4 : Int32} {σ : zz_St} (K : zz_K p s m args c cX4_add 5 RX4 wsX4_add D (tysC cy) A (wC ad cy) nwC) {Qp : zz_St → Prop} (hret : ∀ (σ2 : zz_St), Qp σ2 → ∀ (pc : Nat) (lv : List (Nat × Value)), decode cX4_add pc = .ok (.return_, 1) → zz_G p l e zrm4_add s m args below meth c Q D A (wC ad cy) 5 pc lv [] σ2) (h : zq4_add v1 v2 v3 v4 σ Qp) : zz_G p l e zrm4_add s m args below meth c Q D A (wC ad cy) 5 0 [(0, .ref (ad 4)), (1, .int v1), (2, .int v2), (3, .int v3), (4, .int v4)] [] σ := by
  unfold zq4_add at h
  refine zz_aload_n K 0 dX4_add_0 rfl rfl ?_
  refine zg4_0_0 K zin_X4_add_X4 zlk_X4_add_1 dX4_add_1 ?_
  refine zz_iload_n K 1 dX4_add_4 rfl rfl ?_
  refine zz_iload K 4 dX4_add_5 rfl ?_
  obtain ⟨hin, h⟩ := h
  refine zz_iastore K 0 (σ2 := zz_A σ 19 (upd ((σ).2.1 19) v1.toNatClampNeg v4)) (wC_at_19 ad cy σ) (wC_set_19 ad cy σ _) rfl hin dX4_add_7 ?_
  refine zz_nms (fun g6 eg6 => ?_)
  have h := h g6 eg6
  refine zz_aload_n K 0 dX4_add_8 rfl rfl ?_
  refine zg4_1_0 K zin_X4_add_X4 zlk_X4_add_2 dX4_add_9 ?_
  refine zz_iload_n K 1 dX4_add_12 rfl rfl ?_
  refine zz_iload_n K 2 dX4_add_13 rfl rfl ?_
  obtain ⟨hin, h⟩ := h
  refine zz_iastore K 0 (σ2 := zz_A g6 20 (upd (g6.2.1 20) v1.toNatClampNeg v2)) (wC_at_20 ad cy g6) (wC_set_20 ad cy g6 _) rfl hin dX4_add_14 ?_
  refine zz_nms (fun g7 eg7 => ?_)
  have h := h g7 eg7
  refine zz_aload_n K 0 dX4_add_15 rfl rfl ?_
  refine zg4_2_0 K zin_X4_add_X4 zlk_X4_add_3 dX4_add_16 ?_
  refine zz_iload_n K 1 dX4_add_19 rfl rfl ?_
  refine zz_iload_n K 3 dX4_add_20 rfl rfl ?_
  obtain ⟨hin, h⟩ := h
  refine zz_iastore K 0 (σ2 := zz_A g7 21 (upd (g7.2.1 21) v1.toNatClampNeg v3)) (wC_at_21 ad cy g7) (wC_set_21 ad cy g7 _) rfl hin dX4_add_21 ?_
  refine zz_nms (fun g8 eg8 => ?_)
  have h := h g8 eg8
  refine zz_aload_n K 0 dX4_add_22 rfl rfl ?_
  refine zg4_3_0 K zin_X4_add_X4 zlk_X4_add_4 dX4_add_23 ?_
  refine zz_aload_n K 0 dX4_add_26 rfl rfl ?_
  refine zg4_7_0 K zin_X4_add_X4 zlk_X4_add_5 dX4_add_27 ?_
  refine zz_iload_n K 1 dX4_add_30 rfl rfl ?_
  obtain ⟨hin, h⟩ := h
  refine zz_iastore K 0 (σ2 := zz_A g8 22 (upd (g8.2.1 22) (g8.1 13).toNatClampNeg v1)) (wC_at_22 ad cy g8) (wC_set_22 ad cy g8 _) rfl hin dX4_add_31 ?_
  refine zz_nms (fun g9 eg9 => ?_)
  have h := h g9 eg9
  refine zz_aload_n K 0 dX4_add_32 rfl rfl ?_
  refine zz_dup K rfl dX4_add_33 ?_
  refine zg4_7_0 K zin_X4_add_X4 zlk_X4_add_5 dX4_add_34 ?_
  refine zz_iconst K dX4_add_37 zcCi_1 ?_
  refine zz_iadd K dX4_add_38 ?_
  refine zp4_7_0 K zin_X4_add_X4 zlk_X4_add_5 dX4_add_39 ?_
  refine zz_nms (fun g10 eg10 => ?_)
  have h := h g10 eg10
  exact hret _ h _ _ dX4_add_42
set_option maxRecDepth 100000 in
theorem zc4_add (l : Launch) (D : va_G) (ad : Nat → Nat) (cy : Nat → ClassId) (v1 : Int32) (v2 : Int32) (v3 : Int32) (v4 : Int32) (σ : zz_St) (Qp : zz_St → Prop) (h : zq4_add v1 v2 v3 v4 σ Qp) : zz_Mv l yX4_add wsX4_add zrm4_add D (tysC cy) (wC ad cy) nwC [.ref (ad 4), .int v1, .int v2, .int v3, .int v4] σ Qp :=
  zz_Mv.of zz_nwC (wC_ad ad cy) (by decide +kernel) rfl ⟨rfl, rfl⟩ (Nat.le_of_ble_eq_true rfl) (fun p e s m args below meth c A QW K hret => zu4_add_0 K  hret h)
abbrev zrm7_isBlock : Room := { frames := 0, cells := 0, slots := 0, locals := 0 }
set_option maxHeartbeats 4000000 in
set_option maxRecDepth 100000 in
theorem zu7_isBlock_0 {p : Program} {l : Launch} {e : Env} {s : State} {m : MethodId} {args : Array Value} {below : List Frame} {meth : Method} {c : Code} {Q : State → Prop} {D : va_G} {A : Nat → Prop} {ad : Nat → Nat} {cy : Nat → ClassId} {v0 : Int32} {σ : zz_St} (K : zz_K p s m args c cX7_isBlock 1 RX7 wsX7_isBlock D (tysC cy) A (wC ad cy) nwC) {Qp : Int32 → Prop} (hret : ∀ (r : Int32), narrow .boolean (.int r) = .int r → Qp r → ∀ (pc : Nat) (lv : List (Nat × Value)), decode cX7_isBlock pc = .ok (.ireturn, 1) → zz_G p l e zrm7_isBlock s m args below meth c Q D A (wC ad cy) 1 pc lv [.int r] σ) (h : zq7_isBlock v0 Qp) : zz_G p l e zrm7_isBlock s m args below meth c Q D A (wC ad cy) 1 0 [(0, .int v0)] [] σ := by
  unfold zq7_isBlock at h
  refine zz_iload_n K 0 dX7_isBlock_0 rfl rfl ?_
  refine zz_iconst K dX7_isBlock_1 zcCi_2 ?_
  refine zz_icmp_eq K 10 dX7_isBlock_2 rfl (fun c3 => ?_) (fun c3 => ?_)
  · have h := (And.left h) c3
    refine zz_iconst K dX7_isBlock_10 zcCi_1 ?_
    refine zz_goto K 15 dX7_isBlock_11 rfl ?_
    exact hret _ rfl h _ _ dX7_isBlock_15
  · have h := (And.right h) c3
    refine zz_iload_n K 0 dX7_isBlock_5 rfl rfl ?_
    refine zz_iconst K dX7_isBlock_6 zcCi_3 ?_
    refine zz_icmp_ne K 14 dX7_isBlock_7 rfl (fun c4 => ?_) (fun c4 => ?_)
    · have h := (And.left h) c4
      refine zz_iconst K dX7_isBlock_14 zcCi_0 ?_
      exact hret _ rfl h _ _ dX7_isBlock_15
    · have h := (And.right h) c4
      refine zz_iconst K dX7_isBlock_10 zcCi_1 ?_
      refine zz_goto K 15 dX7_isBlock_11 rfl ?_
      exact hret _ rfl h _ _ dX7_isBlock_15
set_option maxRecDepth 100000 in
theorem zc7_isBlock (l : Launch) (D : va_G) (ad : Nat → Nat) (cy : Nat → ClassId) (v0 : Int32) (σ : zz_St) (Qp : Int32 → Prop) (h : zq7_isBlock v0 Qp) : zz_Mi l yX7_isBlock wsX7_isBlock zrm7_isBlock D (tysC cy) (wC ad cy) nwC [.int v0] σ (fun r σ2 => σ2 = σ ∧ Qp r) :=
  zz_Mi.of zz_nwC (wC_ad ad cy) (by decide +kernel) rfl ⟨rfl, rfl⟩ (Nat.le_of_ble_eq_true rfl) (fun p e s m args below meth c A QW K hret => zu7_isBlock_0 K  (fun r hn hq pc lv hd => hret r σ hn ⟨rfl, hq⟩ pc lv hd) h)
theorem zin_X5_positionOf_X5 : ∀ w ∈ wsX50, w ∈ wsX5_positionOf := fun w h => List.mem_cons_of_mem _ (List.mem_append_right _ h)
theorem zlk_X5_positionOf_1 : Cond.fieldLink RX5 22 "SolidsRolled$Stances" "positions" "[I" ∈ wsX5_positionOf := List.mem_of_getElem? (i := 1) rfl
theorem zlk_X5_positionOf_2 : Cond.fieldLink RX5 9 "SolidsRolled$Stances" "sides" "I" ∈ wsX5_positionOf := List.mem_of_getElem? (i := 2) rfl
abbrev zrm5_positionOf : Room := { frames := 0, cells := 0, slots := 0, locals := 0 }
set_option maxHeartbeats 4000000 in
set_option maxRecDepth 100000 in
theorem zu5_positionOf_0 {p : Program} {l : Launch} {e : Env} {s : State} {m : MethodId} {args : Array Value} {below : List Frame} {meth : Method} {c : Code} {Q : State → Prop} {D : va_G} {A : Nat → Prop} {ad : Nat → Nat} {cy : Nat → ClassId} {v1 : Int32} {v2 : Int32} {w : Nat} {σ : zz_St} (K : zz_K p s m args c cX5_positionOf 3 RX5 wsX5_positionOf D (tysC cy) A (wC ad cy) nwC) {Qp : Int32 → Prop} (hw : w < 2) (hret : ∀ (r : Int32), narrow .int (.int r) = .int r → Qp r → ∀ (pc : Nat) (lv : List (Nat × Value)), decode cX5_positionOf pc = .ok (.ireturn, 1) → zz_G p l e zrm5_positionOf s m args below meth c Q D A (wC ad cy) 3 pc lv [.int r] σ) (h : zq5_positionOf v1 v2 w σ Qp) : zz_G p l e zrm5_positionOf s m args below meth c Q D A (wC ad cy) 3 0 [(0, .ref (ad (6 + w))), (1, .int v1), (2, .int v2)] [] σ := by
  unfold zq5_positionOf at h
  refine zz_aload_n K 0 dX5_positionOf_0 rfl rfl ?_
  refine zg5_3_ K hw zin_X5_positionOf_X5 zlk_X5_positionOf_1 dX5_positionOf_1 ?_
  refine zz_iload_n K 1 dX5_positionOf_4 rfl rfl ?_
  refine zz_aload_n K 0 dX5_positionOf_5 rfl rfl ?_
  refine zg5_0_ K hw zin_X5_positionOf_X5 zlk_X5_positionOf_2 dX5_positionOf_6 ?_
  refine zz_imul K dX5_positionOf_9 ?_
  refine zz_iload_n K 2 dX5_positionOf_10 rfl rfl ?_
  refine zz_iadd K dX5_positionOf_11 ?_
  obtain ⟨hin, h⟩ := h
  refine zz_iaload K 0 (wC_at_30_ ad cy σ _ hw) rfl hin dX5_positionOf_12 ?_
  exact hret _ rfl h _ _ dX5_positionOf_13
set_option maxRecDepth 100000 in
theorem zc5_positionOf (l : Launch) (D : va_G) (ad : Nat → Nat) (cy : Nat → ClassId) (v1 : Int32) (v2 : Int32) (w : Nat) (σ : zz_St) (Qp : Int32 → Prop) (hw : w < 2) (h : zq5_positionOf v1 v2 w σ Qp) : zz_Mi l yX5_positionOf wsX5_positionOf zrm5_positionOf D (tysC cy) (wC ad cy) nwC [.ref (ad (6 + w)), .int v1, .int v2] σ (fun r σ2 => σ2 = σ ∧ Qp r) :=
  zz_Mi.of zz_nwC (wC_ad ad cy) (by decide +kernel) rfl ⟨rfl, rfl⟩ (Nat.le_of_ble_eq_true rfl) (fun p e s m args below meth c A QW K hret => zu5_positionOf_0 K hw (fun r hn hq pc lv hd => hret r σ hn ⟨rfl, hq⟩ pc lv hd) h)
theorem zin_X6_lie_X6 : ∀ w ∈ wsX60, w ∈ wsX6_lie := fun w h => List.mem_cons_of_mem _ (List.mem_append_left _ (List.mem_append_right _ h))
theorem zlk_X6_lie_1 : Cond.fieldLink RX6 38 "SolidsRolled$World" "kind" "I" ∈ wsX6_lie := List.mem_of_getElem? (i := 1) rfl
theorem zlk_X6_lie_2 : Cond.fieldLink RX6 9 "SolidsRolled$World" "cubes" "LSolidsRolled$Stances;" ∈ wsX6_lie := List.mem_of_getElem? (i := 2) rfl
theorem zdsC_yX5_positionOf_v : yX5_positionOf.cls = RX5 ∧ yX5_positionOf.cls ≠ "java/lang/invoke/MethodHandle" ∧ yX5_positionOf.cls ≠ "java/lang/invoke/VarHandle" ∧ (parseMethodDescriptor yX5_positionOf.desc).map (fun d => d.parameters.length) = some 2 := by decide +kernel
theorem zdsC_yX7_isBlock_s : yX7_isBlock.cls ≠ "java/lang/invoke/MethodHandle" ∧ yX7_isBlock.cls ≠ "java/lang/invoke/VarHandle" ∧ (parseMethodDescriptor yX7_isBlock.desc).map (fun d => d.parameters.length) = some 1 := by decide +kernel
theorem zlk_X6_lie_4 : Cond.initialized RX7 ∈ wsX6_lie := List.mem_of_getElem? (i := 4) rfl
theorem zlk_X6_lie_3 : Cond.static yX7_isBlock ∈ wsX6_lie := List.mem_of_getElem? (i := 3) rfl
abbrev zrm6_lie : Room := { frames := 1, cells := 0, slots := 0, locals := 22 }
set_option maxHeartbeats 4000000 in
set_option maxRecDepth 100000 in
theorem zu6_lie_0 {p : Program} {l : Launch} {e : Env} {s : State} {m : MethodId} {args : Array Value} {below : List Frame} {meth : Method} {c : Code} {Q : State → Prop} {D : va_G} {A : Nat → Prop} {ad : Nat → Nat} {cy : Nat → ClassId} {v1 : Int32} {σ : zz_St} (K : zz_K p s m args c cX6_lie 2 RX6 wsX6_lie D (tysC cy) A (wC ad cy) nwC) {Qp : Int32 → Prop} (hret : ∀ (r : Int32), narrow .int (.int r) = .int r → Qp r → ∀ (pc : Nat) (lv : List (Nat × Value)), decode cX6_lie pc = .ok (.ireturn, 1) → zz_G p l e zrm6_lie s m args below meth c Q D A (wC ad cy) 2 pc lv [.int r] σ) (h : zq6_lie v1 σ Qp) : zz_G p l e zrm6_lie s m args below meth c Q D A (wC ad cy) 2 0 [(0, .ref (ad 1)), (1, .int v1)] [] σ := by
  unfold zq6_lie at h
  refine zz_aload_n K 0 dX6_lie_0 rfl rfl ?_
  refine zg6_6_0 K zin_X6_lie_X6 zlk_X6_lie_1 dX6_lie_1 ?_
  refine zz_callNi1 K zz_nwC [.int ((σ).1 6)] (zc7_isBlock l D ad cy ((σ).1 6) σ _  h) ggX6_lie_X7_isBlock rfl ⟨rfl, rfl⟩ zdsC_yX7_isBlock_s ⟨Nat.le_of_ble_eq_true rfl, Nat.le_of_ble_eq_true rfl⟩ (List.mem_of_getElem? (i := 1) rfl) zlk_X6_lie_4 zlk_X6_lie_3 rfl rfl (Nat.le_of_ble_eq_true rfl) dX6_lie_4 (fun r4 h => ?_)
  refine zz_if_ne K 12 dX6_lie_7 rfl (fun c5 => ?_) (fun c5 => ?_)
  · have h := (And.left h) c5
    refine zz_aload_n K 0 dX6_lie_12 rfl rfl ?_
    refine zg6_0_0 K zin_X6_lie_X6 zlk_X6_lie_2 dX6_lie_13 ?_
    refine zz_iload_n K 1 dX6_lie_16 rfl rfl ?_
    refine zz_iconst K dX6_lie_17 zcCi_0 ?_
    refine zz_callVi1 K zz_nwC [.int v1, .int (0 : Int32)] (zc5_positionOf l D ad cy v1 (0 : Int32) (0) σ _ (by decide) h) gX6_lie_X5_positionOf rfl ⟨rfl, rfl⟩ zdsC_yX5_positionOf_v ⟨Nat.le_of_ble_eq_true rfl, Nat.le_of_ble_eq_true rfl⟩ (wC_at_6 ad cy σ) rfl rfl rfl rfl (Nat.le_of_ble_eq_true rfl) dX6_lie_18 (fun r6 h => ?_)
    by_cases c7 : r6 = (2 : Int32)
    · have h := (And.left h) c7
      refine zz_tin K (2) 54 dX6_lie_21 (by rw [c7]; decide) (by decide) (by decide) rfl rfl ?_
      refine zz_iconst K dX6_lie_54 zcCi_2 ?_
      exact hret _ rfl h _ _ dX6_lie_55
    have h := (And.right h) c7
    by_cases c8 : r6 = (3 : Int32)
    · have h := (And.left h) c8
      refine zz_tin K (3) 52 dX6_lie_21 (by rw [c8]; decide) (by decide) (by decide) rfl rfl ?_
      refine zz_iconst K dX6_lie_52 zcCi_1 ?_
      exact hret _ rfl h _ _ dX6_lie_53
    have h := (And.right h) c8
    by_cases c9 : r6 = (4 : Int32)
    · have h := (And.left h) c9
      refine zz_tin K (4) 54 dX6_lie_21 (by rw [c9]; decide) (by decide) (by decide) rfl rfl ?_
      refine zz_iconst K dX6_lie_54 zcCi_2 ?_
      exact hret _ rfl h _ _ dX6_lie_55
    have h := (And.right h) c9
    by_cases c10 : r6 = (5 : Int32)
    · have h := (And.left h) c10
      refine zz_tin K (5) 52 dX6_lie_21 (by rw [c10]; decide) (by decide) (by decide) rfl rfl ?_
      refine zz_iconst K dX6_lie_52 zcCi_1 ?_
      exact hret _ rfl h _ _ dX6_lie_53
    have h := (And.right h) c10
    refine zz_tout K 56 dX6_lie_21 (zz_tsw r6 (2) (5) (fun z h1 h2 => by
      have hz : z = 2 ∨ z = 3 ∨ z = 4 ∨ z = 5 := by omega
      rcases hz with rfl | rfl | rfl | rfl <;> intro q
      · exact c7 (Int32.toInt_inj.mp (q.trans (by decide)))
      · exact c8 (Int32.toInt_inj.mp (q.trans (by decide)))
      · exact c9 (Int32.toInt_inj.mp (q.trans (by decide)))
      · exact c10 (Int32.toInt_inj.mp (q.trans (by decide))))) rfl ?_
    refine zz_iconst K dX6_lie_56 zcCi_0 ?_
    exact hret _ rfl h _ _ dX6_lie_57
  · have h := (And.right h) c5
    refine zz_iconst K dX6_lie_10 zcCi_0 ?_
    exact hret _ rfl h _ _ dX6_lie_11
set_option maxRecDepth 100000 in
theorem zc6_lie (l : Launch) (D : va_G) (ad : Nat → Nat) (cy : Nat → ClassId) (v1 : Int32) (σ : zz_St) (Qp : Int32 → Prop) (h : zq6_lie v1 σ Qp) : zz_Mi l yX6_lie wsX6_lie zrm6_lie D (tysC cy) (wC ad cy) nwC [.ref (ad 1), .int v1] σ (fun r σ2 => σ2 = σ ∧ Qp r) :=
  zz_Mi.of zz_nwC (wC_ad ad cy) (by decide +kernel) rfl ⟨rfl, rfl⟩ (Nat.le_of_ble_eq_true rfl) (fun p e s m args below meth c A QW K hret => zu6_lie_0 K  (fun r hn hq pc lv hd => hret r σ hn ⟨rfl, hq⟩ pc lv hd) h)
theorem zcCi_4 : Int32.ofInt (4) = (4 : Int32) := by decide
theorem zcCi_5 : Int32.ofInt (5) = (5 : Int32) := by decide
abbrev zrm7_isTetra : Room := { frames := 0, cells := 0, slots := 0, locals := 0 }
set_option maxHeartbeats 4000000 in
set_option maxRecDepth 100000 in
theorem zu7_isTetra_0 {p : Program} {l : Launch} {e : Env} {s : State} {m : MethodId} {args : Array Value} {below : List Frame} {meth : Method} {c : Code} {Q : State → Prop} {D : va_G} {A : Nat → Prop} {ad : Nat → Nat} {cy : Nat → ClassId} {v0 : Int32} {σ : zz_St} (K : zz_K p s m args c cX7_isTetra 1 RX7 wsX7_isTetra D (tysC cy) A (wC ad cy) nwC) {Qp : Int32 → Prop} (hret : ∀ (r : Int32), narrow .boolean (.int r) = .int r → Qp r → ∀ (pc : Nat) (lv : List (Nat × Value)), decode cX7_isTetra pc = .ok (.ireturn, 1) → zz_G p l e zrm7_isTetra s m args below meth c Q D A (wC ad cy) 1 pc lv [.int r] σ) (h : zq7_isTetra v0 Qp) : zz_G p l e zrm7_isTetra s m args below meth c Q D A (wC ad cy) 1 0 [(0, .int v0)] [] σ := by
  unfold zq7_isTetra at h
  refine zz_iload_n K 0 dX7_isTetra_0 rfl rfl ?_
  refine zz_iconst K dX7_isTetra_1 zcCi_4 ?_
  refine zz_icmp_eq K 10 dX7_isTetra_2 rfl (fun c3 => ?_) (fun c3 => ?_)
  · have h := (And.left h) c3
    refine zz_iconst K dX7_isTetra_10 zcCi_1 ?_
    refine zz_goto K 15 dX7_isTetra_11 rfl ?_
    exact hret _ rfl h _ _ dX7_isTetra_15
  · have h := (And.right h) c3
    refine zz_iload_n K 0 dX7_isTetra_5 rfl rfl ?_
    refine zz_iconst K dX7_isTetra_6 zcCi_5 ?_
    refine zz_icmp_ne K 14 dX7_isTetra_7 rfl (fun c4 => ?_) (fun c4 => ?_)
    · have h := (And.left h) c4
      refine zz_iconst K dX7_isTetra_14 zcCi_0 ?_
      exact hret _ rfl h _ _ dX7_isTetra_15
    · have h := (And.right h) c4
      refine zz_iconst K dX7_isTetra_10 zcCi_1 ?_
      refine zz_goto K 15 dX7_isTetra_11 rfl ?_
      exact hret _ rfl h _ _ dX7_isTetra_15
set_option maxRecDepth 100000 in
theorem zc7_isTetra (l : Launch) (D : va_G) (ad : Nat → Nat) (cy : Nat → ClassId) (v0 : Int32) (σ : zz_St) (Qp : Int32 → Prop) (h : zq7_isTetra v0 Qp) : zz_Mi l yX7_isTetra wsX7_isTetra zrm7_isTetra D (tysC cy) (wC ad cy) nwC [.int v0] σ (fun r σ2 => σ2 = σ ∧ Qp r) :=
  zz_Mi.of zz_nwC (wC_ad ad cy) (by decide +kernel) rfl ⟨rfl, rfl⟩ (Nat.le_of_ble_eq_true rfl) (fun p e s m args below meth c A QW K hret => zu7_isTetra_0 K  (fun r hn hq pc lv hd => hret r σ hn ⟨rfl, hq⟩ pc lv hd) h)
theorem zin_X5_faceBelow_X5 : ∀ w ∈ wsX50, w ∈ wsX5_faceBelow := fun w h => List.mem_cons_of_mem _ (List.mem_append_right _ h)
theorem zlk_X5_faceBelow_1 : Cond.fieldLink RX5 18 "SolidsRolled$Stances" "faceAt" "[I" ∈ wsX5_faceBelow := List.mem_of_getElem? (i := 1) rfl
theorem zlk_X5_faceBelow_2 : Cond.fieldLink RX5 9 "SolidsRolled$Stances" "sides" "I" ∈ wsX5_faceBelow := List.mem_of_getElem? (i := 2) rfl
theorem zlk_X5_faceBelow_3 : Cond.fieldLink RX5 15 "SolidsRolled$Stances" "bottom" "I" ∈ wsX5_faceBelow := List.mem_of_getElem? (i := 3) rfl
abbrev zrm5_faceBelow : Room := { frames := 0, cells := 0, slots := 0, locals := 0 }
set_option maxHeartbeats 4000000 in
set_option maxRecDepth 100000 in
theorem zu5_faceBelow_0 {p : Program} {l : Launch} {e : Env} {s : State} {m : MethodId} {args : Array Value} {below : List Frame} {meth : Method} {c : Code} {Q : State → Prop} {D : va_G} {A : Nat → Prop} {ad : Nat → Nat} {cy : Nat → ClassId} {v1 : Int32} {w : Nat} {σ : zz_St} (K : zz_K p s m args c cX5_faceBelow 2 RX5 wsX5_faceBelow D (tysC cy) A (wC ad cy) nwC) {Qp : Int32 → Prop} (hw : w < 2) (hret : ∀ (r : Int32), narrow .int (.int r) = .int r → Qp r → ∀ (pc : Nat) (lv : List (Nat × Value)), decode cX5_faceBelow pc = .ok (.ireturn, 1) → zz_G p l e zrm5_faceBelow s m args below meth c Q D A (wC ad cy) 2 pc lv [.int r] σ) (h : zq5_faceBelow v1 w σ Qp) : zz_G p l e zrm5_faceBelow s m args below meth c Q D A (wC ad cy) 2 0 [(0, .ref (ad (6 + w))), (1, .int v1)] [] σ := by
  unfold zq5_faceBelow at h
  refine zz_aload_n K 0 dX5_faceBelow_0 rfl rfl ?_
  refine zg5_2_ K hw zin_X5_faceBelow_X5 zlk_X5_faceBelow_1 dX5_faceBelow_1 ?_
  refine zz_iload_n K 1 dX5_faceBelow_4 rfl rfl ?_
  refine zz_aload_n K 0 dX5_faceBelow_5 rfl rfl ?_
  refine zg5_0_ K hw zin_X5_faceBelow_X5 zlk_X5_faceBelow_2 dX5_faceBelow_6 ?_
  refine zz_imul K dX5_faceBelow_9 ?_
  refine zz_aload_n K 0 dX5_faceBelow_10 rfl rfl ?_
  refine zg5_1_ K hw zin_X5_faceBelow_X5 zlk_X5_faceBelow_3 dX5_faceBelow_11 ?_
  refine zz_iadd K dX5_faceBelow_14 ?_
  obtain ⟨hin, h⟩ := h
  refine zz_iaload K 0 (wC_at_28_ ad cy σ _ hw) rfl hin dX5_faceBelow_15 ?_
  exact hret _ rfl h _ _ dX5_faceBelow_16
set_option maxRecDepth 100000 in
theorem zc5_faceBelow (l : Launch) (D : va_G) (ad : Nat → Nat) (cy : Nat → ClassId) (v1 : Int32) (w : Nat) (σ : zz_St) (Qp : Int32 → Prop) (hw : w < 2) (h : zq5_faceBelow v1 w σ Qp) : zz_Mi l yX5_faceBelow wsX5_faceBelow zrm5_faceBelow D (tysC cy) (wC ad cy) nwC [.ref (ad (6 + w)), .int v1] σ (fun r σ2 => σ2 = σ ∧ Qp r) :=
  zz_Mi.of zz_nwC (wC_ad ad cy) (by decide +kernel) rfl ⟨rfl, rfl⟩ (Nat.le_of_ble_eq_true rfl) (fun p e s m args below meth c A QW K hret => zu5_faceBelow_0 K hw (fun r hn hq pc lv hd => hret r σ hn ⟨rfl, hq⟩ pc lv hd) h)
theorem zin_X6_faceBelow_X6 : ∀ w ∈ wsX60, w ∈ wsX6_faceBelow := fun w h => List.mem_cons_of_mem _ (List.mem_append_left _ (List.mem_append_right _ h))
theorem zlk_X6_faceBelow_1 : Cond.fieldLink RX6 38 "SolidsRolled$World" "kind" "I" ∈ wsX6_faceBelow := List.mem_of_getElem? (i := 1) rfl
theorem zlk_X6_faceBelow_3 : Cond.fieldLink RX6 9 "SolidsRolled$World" "cubes" "LSolidsRolled$Stances;" ∈ wsX6_faceBelow := List.mem_of_getElem? (i := 3) rfl
theorem zlk_X6_faceBelow_2 : Cond.fieldLink RX6 15 "SolidsRolled$World" "tetras" "LSolidsRolled$Stances;" ∈ wsX6_faceBelow := List.mem_of_getElem? (i := 2) rfl
theorem zcCb_24 : (Int8.ofInt (24)).toInt32 = (24 : Int32) := by decide
theorem zdsC_yX5_faceBelow_v : yX5_faceBelow.cls = RX5 ∧ yX5_faceBelow.cls ≠ "java/lang/invoke/MethodHandle" ∧ yX5_faceBelow.cls ≠ "java/lang/invoke/VarHandle" ∧ (parseMethodDescriptor yX5_faceBelow.desc).map (fun d => d.parameters.length) = some 1 := by decide +kernel
theorem zdsC_yX7_isTetra_s : yX7_isTetra.cls ≠ "java/lang/invoke/MethodHandle" ∧ yX7_isTetra.cls ≠ "java/lang/invoke/VarHandle" ∧ (parseMethodDescriptor yX7_isTetra.desc).map (fun d => d.parameters.length) = some 1 := by decide +kernel
theorem zlk_X6_faceBelow_5 : Cond.initialized RX7 ∈ wsX6_faceBelow := List.mem_of_getElem? (i := 5) rfl
theorem zlk_X6_faceBelow_4 : Cond.static yX7_isTetra ∈ wsX6_faceBelow := List.mem_of_getElem? (i := 4) rfl
abbrev zrm6_faceBelow : Room := { frames := 1, cells := 0, slots := 0, locals := 21 }
set_option maxHeartbeats 4000000 in
set_option maxRecDepth 100000 in
theorem zu6_faceBelow_21 {p : Program} {l : Launch} {e : Env} {s : State} {m : MethodId} {args : Array Value} {below : List Frame} {meth : Method} {c : Code} {Q : State → Prop} {D : va_G} {A : Nat → Prop} {ad : Nat → Nat} {cy : Nat → ClassId} {v1 : Int32} {s0 : Nat} {σ : zz_St} (K : zz_K p s m args c cX6_faceBelow 3 RX6 wsX6_faceBelow D (tysC cy) A (wC ad cy) nwC) {Qp : Int32 → Prop} (hs0 : s0 < 2) (hret : ∀ (r : Int32), narrow .int (.int r) = .int r → Qp r → ∀ (pc : Nat) (lv : List (Nat × Value)), decode cX6_faceBelow pc = .ok (.ireturn, 1) → zz_G p l e zrm6_faceBelow s m args below meth c Q D A (wC ad cy) 3 pc lv [.int r] σ) (h : zq6_faceBelow_21 v1 s0 σ Qp) : zz_G p l e zrm6_faceBelow s m args below meth c Q D A (wC ad cy) 3 21 [(1, .int v1)] [.ref (ad (6 + s0))] σ := by
  unfold zq6_faceBelow_21 at h
  refine zz_astore_n K [(2, .ref (ad (6 + s0))), (1, .int v1)] dX6_faceBelow_21 rfl (by decide) rfl ?_
  refine zz_aload_n K 0 dX6_faceBelow_22 rfl rfl ?_
  refine zz_iload_n K 1 dX6_faceBelow_23 rfl rfl ?_
  refine zz_bipush K dX6_faceBelow_24 zcCb_24 ?_
  refine zz_irem K (by decide : ¬ (24 : Int32) = 0) dX6_faceBelow_26 ?_
  refine zz_callVi1 K zz_nwC [.int (v1 - v1 / (24 : Int32) * (24 : Int32))] (zc5_faceBelow l D ad cy (v1 - v1 / (24 : Int32) * (24 : Int32)) s0 σ _ hs0 h) gX6_faceBelow_X5_faceBelow rfl ⟨rfl, rfl⟩ zdsC_yX5_faceBelow_v ⟨Nat.le_of_ble_eq_true rfl, Nat.le_of_ble_eq_true rfl⟩ (wC_at_6_ ad cy σ _ hs0) rfl rfl rfl rfl (Nat.le_of_ble_eq_true rfl) dX6_faceBelow_27 (fun r4 h => ?_)
  exact hret _ rfl h _ _ dX6_faceBelow_30
set_option maxHeartbeats 4000000 in
set_option maxRecDepth 100000 in
theorem zu6_faceBelow_0 {p : Program} {l : Launch} {e : Env} {s : State} {m : MethodId} {args : Array Value} {below : List Frame} {meth : Method} {c : Code} {Q : State → Prop} {D : va_G} {A : Nat → Prop} {ad : Nat → Nat} {cy : Nat → ClassId} {v1 : Int32} {σ : zz_St} (K : zz_K p s m args c cX6_faceBelow 3 RX6 wsX6_faceBelow D (tysC cy) A (wC ad cy) nwC) {Qp : Int32 → Prop} (hret : ∀ (r : Int32), narrow .int (.int r) = .int r → Qp r → ∀ (pc : Nat) (lv : List (Nat × Value)), decode cX6_faceBelow pc = .ok (.ireturn, 1) → zz_G p l e zrm6_faceBelow s m args below meth c Q D A (wC ad cy) 3 pc lv [.int r] σ) (h : zq6_faceBelow v1 σ Qp) : zz_G p l e zrm6_faceBelow s m args below meth c Q D A (wC ad cy) 3 0 [(0, .ref (ad 1)), (1, .int v1)] [] σ := by
  unfold zq6_faceBelow at h
  refine zz_aload_n K 0 dX6_faceBelow_0 rfl rfl ?_
  refine zg6_6_0 K zin_X6_faceBelow_X6 zlk_X6_faceBelow_1 dX6_faceBelow_1 ?_
  refine zz_callNi1 K zz_nwC [.int ((σ).1 6)] (zc7_isTetra l D ad cy ((σ).1 6) σ _  h) ggX6_faceBelow_X7_isTetra rfl ⟨rfl, rfl⟩ zdsC_yX7_isTetra_s ⟨Nat.le_of_ble_eq_true rfl, Nat.le_of_ble_eq_true rfl⟩ (List.mem_of_getElem? (i := 0) rfl) zlk_X6_faceBelow_5 zlk_X6_faceBelow_4 rfl rfl (Nat.le_of_ble_eq_true rfl) dX6_faceBelow_4 (fun r5 h => ?_)
  refine zz_if_eq K 17 dX6_faceBelow_7 rfl (fun c6 => ?_) (fun c6 => ?_)
  · have h := (And.left h) c6
    refine zz_aload_n K 0 dX6_faceBelow_17 rfl rfl ?_
    refine zg6_0_0 K zin_X6_faceBelow_X6 zlk_X6_faceBelow_3 dX6_faceBelow_18 ?_
    refine zz_sub [1] [(1, .int v1)] rfl ?_
    exact zu6_faceBelow_21 K (by decide) hret h
  · have h := (And.right h) c6
    refine zz_aload_n K 0 dX6_faceBelow_10 rfl rfl ?_
    refine zg6_1_0 K zin_X6_faceBelow_X6 zlk_X6_faceBelow_2 dX6_faceBelow_11 ?_
    refine zz_goto K 21 dX6_faceBelow_14 rfl ?_
    refine zz_sub [1] [(1, .int v1)] rfl ?_
    exact zu6_faceBelow_21 K (by decide) hret h
set_option maxRecDepth 100000 in
theorem zc6_faceBelow (l : Launch) (D : va_G) (ad : Nat → Nat) (cy : Nat → ClassId) (v1 : Int32) (σ : zz_St) (Qp : Int32 → Prop) (h : zq6_faceBelow v1 σ Qp) : zz_Mi l yX6_faceBelow wsX6_faceBelow zrm6_faceBelow D (tysC cy) (wC ad cy) nwC [.ref (ad 1), .int v1] σ (fun r σ2 => σ2 = σ ∧ Qp r) :=
  zz_Mi.of zz_nwC (wC_ad ad cy) (by decide +kernel) rfl ⟨rfl, rfl⟩ (Nat.le_of_ble_eq_true rfl) (fun p e s m args below meth c A QW K hret => zu6_faceBelow_0 K  (fun r hn hq pc lv hd => hret r σ hn ⟨rfl, hq⟩ pc lv hd) h)
theorem zdsC_yX6_faceBelow_v : yX6_faceBelow.cls = RX6 ∧ yX6_faceBelow.cls ≠ "java/lang/invoke/MethodHandle" ∧ yX6_faceBelow.cls ≠ "java/lang/invoke/VarHandle" ∧ (parseMethodDescriptor yX6_faceBelow.desc).map (fun d => d.parameters.length) = some 1 := by decide +kernel
theorem zdsC_yX6_lie_v : yX6_lie.cls = RX6 ∧ yX6_lie.cls ≠ "java/lang/invoke/MethodHandle" ∧ yX6_lie.cls ≠ "java/lang/invoke/VarHandle" ∧ (parseMethodDescriptor yX6_lie.desc).map (fun d => d.parameters.length) = some 1 := by decide +kernel
abbrev zrm6_isAt : Room := { frames := 2, cells := 0, slots := 0, locals := 43 }
set_option maxHeartbeats 4000000 in
set_option maxRecDepth 100000 in
theorem zu6_isAt_0 {p : Program} {l : Launch} {e : Env} {s : State} {m : MethodId} {args : Array Value} {below : List Frame} {meth : Method} {c : Code} {Q : State → Prop} {D : va_G} {A : Nat → Prop} {ad : Nat → Nat} {cy : Nat → ClassId} {v1 : Int32} {v2 : Int32} {v3 : Int32} {σ : zz_St} (K : zz_K p s m args c cX6_isAt 4 RX6 wsX6_isAt D (tysC cy) A (wC ad cy) nwC) {Qp : Int32 → Prop} (hret : ∀ (r : Int32), narrow .boolean (.int r) = .int r → Qp r → ∀ (pc : Nat) (lv : List (Nat × Value)), decode cX6_isAt pc = .ok (.ireturn, 1) → zz_G p l e zrm6_isAt s m args below meth c Q D A (wC ad cy) 4 pc lv [.int r] σ) (h : zq6_isAt v1 v2 v3 σ Qp) : zz_G p l e zrm6_isAt s m args below meth c Q D A (wC ad cy) 4 0 [(0, .ref (ad 1)), (1, .int v1), (2, .int v2), (3, .int v3)] [] σ := by
  unfold zq6_isAt at h
  refine zz_iload_n K 1 dX6_isAt_0 rfl rfl ?_
  refine zz_bipush K dX6_isAt_1 zcCb_24 ?_
  refine zz_idiv K (by decide : ¬ (24 : Int32) = 0) dX6_isAt_3 ?_
  refine zz_iload_n K 2 dX6_isAt_4 rfl rfl ?_
  refine zz_icmp_ne K 37 dX6_isAt_5 rfl (fun c7 => ?_) (fun c7 => ?_)
  · have h := (And.left h) c7
    refine zz_iconst K dX6_isAt_37 zcCi_0 ?_
    exact hret _ rfl h _ _ dX6_isAt_38
  · have h := (And.right h) c7
    refine zz_aload_n K 0 dX6_isAt_8 rfl rfl ?_
    refine zz_iload_n K 1 dX6_isAt_9 rfl rfl ?_
    refine zz_bipush K dX6_isAt_10 zcCb_24 ?_
    refine zz_irem K (by decide : ¬ (24 : Int32) = 0) dX6_isAt_12 ?_
    refine zz_callVi1 K zz_nwC [.int (v1 - v1 / (24 : Int32) * (24 : Int32))] (zc6_lie l D ad cy (v1 - v1 / (24 : Int32) * (24 : Int32)) σ _  h) gX6_isAt_X6_lie rfl ⟨rfl, rfl⟩ zdsC_yX6_lie_v ⟨Nat.le_of_ble_eq_true rfl, Nat.le_of_ble_eq_true rfl⟩ (wC_at_1 ad cy σ) rfl rfl rfl rfl (Nat.le_of_ble_eq_true rfl) dX6_isAt_13 (fun r8 h => ?_)
    refine zz_if_ne K 37 dX6_isAt_16 rfl (fun c9 => ?_) (fun c9 => ?_)
    · have h := (And.left h) c9
      refine zz_iconst K dX6_isAt_37 zcCi_0 ?_
      exact hret _ rfl h _ _ dX6_isAt_38
    · have h := (And.right h) c9
      refine zz_iload_n K 3 dX6_isAt_19 rfl rfl ?_
      refine zz_iconst K dX6_isAt_20 zcCi_m1 ?_
      refine zz_icmp_eq K 33 dX6_isAt_21 rfl (fun c10 => ?_) (fun c10 => ?_)
      · have h := (And.left h) c10
        refine zz_iconst K dX6_isAt_33 zcCi_1 ?_
        refine zz_goto K 38 dX6_isAt_34 rfl ?_
        exact hret _ rfl h _ _ dX6_isAt_38
      · have h := (And.right h) c10
        refine zz_aload_n K 0 dX6_isAt_24 rfl rfl ?_
        refine zz_iload_n K 1 dX6_isAt_25 rfl rfl ?_
        refine zz_callVi1 K zz_nwC [.int v1] (zc6_faceBelow l D ad cy v1 σ _  h) gX6_isAt_X6_faceBelow rfl ⟨rfl, rfl⟩ zdsC_yX6_faceBelow_v ⟨Nat.le_of_ble_eq_true rfl, Nat.le_of_ble_eq_true rfl⟩ (wC_at_1 ad cy σ) rfl rfl rfl rfl (Nat.le_of_ble_eq_true rfl) dX6_isAt_26 (fun r11 h => ?_)
        refine zz_iload_n K 3 dX6_isAt_29 rfl rfl ?_
        refine zz_icmp_ne K 37 dX6_isAt_30 rfl (fun c12 => ?_) (fun c12 => ?_)
        · have h := (And.left h) c12
          refine zz_iconst K dX6_isAt_37 zcCi_0 ?_
          exact hret _ rfl h _ _ dX6_isAt_38
        · have h := (And.right h) c12
          refine zz_iconst K dX6_isAt_33 zcCi_1 ?_
          refine zz_goto K 38 dX6_isAt_34 rfl ?_
          exact hret _ rfl h _ _ dX6_isAt_38
set_option maxRecDepth 100000 in
theorem zc6_isAt (l : Launch) (D : va_G) (ad : Nat → Nat) (cy : Nat → ClassId) (v1 : Int32) (v2 : Int32) (v3 : Int32) (σ : zz_St) (Qp : Int32 → Prop) (h : zq6_isAt v1 v2 v3 σ Qp) : zz_Mi l yX6_isAt wsX6_isAt zrm6_isAt D (tysC cy) (wC ad cy) nwC [.ref (ad 1), .int v1, .int v2, .int v3] σ (fun r σ2 => σ2 = σ ∧ Qp r) :=
  zz_Mi.of zz_nwC (wC_ad ad cy) (by decide +kernel) rfl ⟨rfl, rfl⟩ (Nat.le_of_ble_eq_true rfl) (fun p e s m args below meth c A QW K hret => zu6_isAt_0 K  (fun r hn hq pc lv hd => hret r σ hn ⟨rfl, hq⟩ pc lv hd) h)
abbrev zrm6_rowOf : Room := { frames := 0, cells := 0, slots := 0, locals := 0 }
set_option maxHeartbeats 4000000 in
set_option maxRecDepth 100000 in
theorem zu6_rowOf_0 {p : Program} {l : Launch} {e : Env} {s : State} {m : MethodId} {args : Array Value} {below : List Frame} {meth : Method} {c : Code} {Q : State → Prop} {D : va_G} {A : Nat → Prop} {ad : Nat → Nat} {cy : Nat → ClassId} {v0 : Int32} {v1 : Int32} {σ : zz_St} (K : zz_K p s m args c cX6_rowOf 2 RX6 wsX6_rowOf D (tysC cy) A (wC ad cy) nwC) {Qp : Int32 → Prop} (hret : ∀ (r : Int32), narrow .int (.int r) = .int r → Qp r → ∀ (pc : Nat) (lv : List (Nat × Value)), decode cX6_rowOf pc = .ok (.ireturn, 1) → zz_G p l e zrm6_rowOf s m args below meth c Q D A (wC ad cy) 2 pc lv [.int r] σ) (h : zq6_rowOf v0 v1 Qp) : zz_G p l e zrm6_rowOf s m args below meth c Q D A (wC ad cy) 2 0 [(0, .int v0), (1, .int v1)] [] σ := by
  unfold zq6_rowOf at h
  refine zz_iload_n K 1 dX6_rowOf_0 rfl rfl ?_
  refine zz_if_le K 10 dX6_rowOf_1 rfl (fun c2 => ?_) (fun c2 => ?_)
  · have h := (And.left h) c2
    refine zz_iconst K dX6_rowOf_10 zcCi_0 ?_
    exact hret _ rfl h _ _ dX6_rowOf_11
  · have h := (And.right h) c2
    refine zz_iload_n K 0 dX6_rowOf_4 rfl rfl ?_
    refine zz_iload_n K 1 dX6_rowOf_5 rfl rfl ?_
    obtain ⟨hne, h⟩ := h
    refine zz_idiv K hne dX6_rowOf_6 ?_
    refine zz_goto K 11 dX6_rowOf_7 rfl ?_
    exact hret _ rfl h _ _ dX6_rowOf_11
set_option maxRecDepth 100000 in
theorem zc6_rowOf (l : Launch) (D : va_G) (ad : Nat → Nat) (cy : Nat → ClassId) (v0 : Int32) (v1 : Int32) (σ : zz_St) (Qp : Int32 → Prop) (h : zq6_rowOf v0 v1 Qp) : zz_Mi l yX6_rowOf wsX6_rowOf zrm6_rowOf D (tysC cy) (wC ad cy) nwC [.int v0, .int v1] σ (fun r σ2 => σ2 = σ ∧ Qp r) :=
  zz_Mi.of zz_nwC (wC_ad ad cy) (by decide +kernel) rfl ⟨rfl, rfl⟩ (Nat.le_of_ble_eq_true rfl) (fun p e s m args below meth c A QW K hret => zu6_rowOf_0 K  (fun r hn hq pc lv hd => hret r σ hn ⟨rfl, hq⟩ pc lv hd) h)
theorem zin_X6_bears_X6 : ∀ w ∈ wsX60, w ∈ wsX6_bears := fun w h => List.mem_cons_of_mem _ (List.mem_append_right _ h)
theorem zlk_X6_bears_1 : Cond.fieldLink RX6 18 "SolidsRolled$World" "tiles" "[I" ∈ wsX6_bears := List.mem_of_getElem? (i := 1) rfl
abbrev zrm6_bears : Room := { frames := 0, cells := 0, slots := 0, locals := 0 }
set_option maxHeartbeats 4000000 in
set_option maxRecDepth 100000 in
theorem zu6_bears_0 {p : Program} {l : Launch} {e : Env} {s : State} {m : MethodId} {args : Array Value} {below : List Frame} {meth : Method} {c : Code} {Q : State → Prop} {D : va_G} {A : Nat → Prop} {ad : Nat → Nat} {cy : Nat → ClassId} {v1 : Int32} {v2 : Int32} {σ : zz_St} (K : zz_K p s m args c cX6_bears 3 RX6 wsX6_bears D (tysC cy) A (wC ad cy) nwC) {Qp : Int32 → Prop} (hret : ∀ (r : Int32), narrow .boolean (.int r) = .int r → Qp r → ∀ (pc : Nat) (lv : List (Nat × Value)), decode cX6_bears pc = .ok (.ireturn, 1) → zz_G p l e zrm6_bears s m args below meth c Q D A (wC ad cy) 3 pc lv [.int r] σ) (h : zq6_bears v1 v2 σ Qp) : zz_G p l e zrm6_bears s m args below meth c Q D A (wC ad cy) 3 0 [(0, .ref (ad 1)), (1, .int v1), (2, .int v2)] [] σ := by
  unfold zq6_bears at h
  refine zz_aload_n K 0 dX6_bears_0 rfl rfl ?_
  refine zg6_2_0 K zin_X6_bears_X6 zlk_X6_bears_1 dX6_bears_1 ?_
  refine zz_iload_n K 1 dX6_bears_4 rfl rfl ?_
  obtain ⟨hin, h⟩ := h
  refine zz_iaload K 0 (wC_at_14 ad cy σ) rfl hin dX6_bears_5 ?_
  refine zz_iconst K dX6_bears_6 zcCi_1 ?_
  refine zz_icmp_eq K 28 dX6_bears_7 rfl (fun c4 => ?_) (fun c4 => ?_)
  · have h := (And.left h) c4
    refine zz_iconst K dX6_bears_28 zcCi_0 ?_
    exact hret _ rfl h _ _ dX6_bears_29
  · have h := (And.right h) c4
    refine zz_iload_n K 2 dX6_bears_10 rfl rfl ?_
    refine zz_if_eq K 24 dX6_bears_11 rfl (fun c5 => ?_) (fun c5 => ?_)
    · have h := (And.left h) c5
      refine zz_iconst K dX6_bears_24 zcCi_1 ?_
      refine zz_goto K 29 dX6_bears_25 rfl ?_
      exact hret _ rfl h _ _ dX6_bears_29
    · have h := (And.right h) c5
      refine zz_aload_n K 0 dX6_bears_14 rfl rfl ?_
      refine zg6_2_0 K zin_X6_bears_X6 zlk_X6_bears_1 dX6_bears_15 ?_
      refine zz_iload_n K 1 dX6_bears_18 rfl rfl ?_
      obtain ⟨hin, h⟩ := h
      refine zz_iaload K 0 (wC_at_14 ad cy σ) rfl hin dX6_bears_19 ?_
      refine zz_iconst K dX6_bears_20 zcCi_2 ?_
      refine zz_icmp_eq K 28 dX6_bears_21 rfl (fun c6 => ?_) (fun c6 => ?_)
      · have h := (And.left h) c6
        refine zz_iconst K dX6_bears_28 zcCi_0 ?_
        exact hret _ rfl h _ _ dX6_bears_29
      · have h := (And.right h) c6
        refine zz_iconst K dX6_bears_24 zcCi_1 ?_
        refine zz_goto K 29 dX6_bears_25 rfl ?_
        exact hret _ rfl h _ _ dX6_bears_29
set_option maxRecDepth 100000 in
theorem zc6_bears (l : Launch) (D : va_G) (ad : Nat → Nat) (cy : Nat → ClassId) (v1 : Int32) (v2 : Int32) (σ : zz_St) (Qp : Int32 → Prop) (h : zq6_bears v1 v2 σ Qp) : zz_Mi l yX6_bears wsX6_bears zrm6_bears D (tysC cy) (wC ad cy) nwC [.ref (ad 1), .int v1, .int v2] σ (fun r σ2 => σ2 = σ ∧ Qp r) :=
  zz_Mi.of zz_nwC (wC_ad ad cy) (by decide +kernel) rfl ⟨rfl, rfl⟩ (Nat.le_of_ble_eq_true rfl) (fun p e s m args below meth c A QW K hret => zu6_bears_0 K  (fun r hn hq pc lv hd => hret r σ hn ⟨rfl, hq⟩ pc lv hd) h)
theorem zin_X5_turnedTo_X5 : ∀ w ∈ wsX50, w ∈ wsX5_turnedTo := fun w h => List.mem_cons_of_mem _ (List.mem_append_right _ h)
theorem zlk_X5_turnedTo_1 : Cond.fieldLink RX5 25 "SolidsRolled$Stances" "turned" "[I" ∈ wsX5_turnedTo := List.mem_of_getElem? (i := 1) rfl
abbrev zrm5_turnedTo : Room := { frames := 0, cells := 0, slots := 0, locals := 0 }
set_option maxHeartbeats 4000000 in
set_option maxRecDepth 100000 in
theorem zu5_turnedTo_0 {p : Program} {l : Launch} {e : Env} {s : State} {m : MethodId} {args : Array Value} {below : List Frame} {meth : Method} {c : Code} {Q : State → Prop} {D : va_G} {A : Nat → Prop} {ad : Nat → Nat} {cy : Nat → ClassId} {v1 : Int32} {v2 : Int32} {w : Nat} {σ : zz_St} (K : zz_K p s m args c cX5_turnedTo 3 RX5 wsX5_turnedTo D (tysC cy) A (wC ad cy) nwC) {Qp : Int32 → Prop} (hw : w < 2) (hret : ∀ (r : Int32), narrow .int (.int r) = .int r → Qp r → ∀ (pc : Nat) (lv : List (Nat × Value)), decode cX5_turnedTo pc = .ok (.ireturn, 1) → zz_G p l e zrm5_turnedTo s m args below meth c Q D A (wC ad cy) 3 pc lv [.int r] σ) (h : zq5_turnedTo v1 v2 w σ Qp) : zz_G p l e zrm5_turnedTo s m args below meth c Q D A (wC ad cy) 3 0 [(0, .ref (ad (6 + w))), (1, .int v1), (2, .int v2)] [] σ := by
  unfold zq5_turnedTo at h
  refine zz_aload_n K 0 dX5_turnedTo_0 rfl rfl ?_
  refine zg5_4_ K hw zin_X5_turnedTo_X5 zlk_X5_turnedTo_1 dX5_turnedTo_1 ?_
  refine zz_iload_n K 1 dX5_turnedTo_4 rfl rfl ?_
  refine zz_iconst K dX5_turnedTo_5 zcCi_4 ?_
  refine zz_imul K dX5_turnedTo_6 ?_
  refine zz_iload_n K 2 dX5_turnedTo_7 rfl rfl ?_
  refine zz_iadd K dX5_turnedTo_8 ?_
  obtain ⟨hin, h⟩ := h
  refine zz_iaload K 0 (wC_at_32_ ad cy σ _ hw) rfl hin dX5_turnedTo_9 ?_
  exact hret _ rfl h _ _ dX5_turnedTo_10
set_option maxRecDepth 100000 in
theorem zc5_turnedTo (l : Launch) (D : va_G) (ad : Nat → Nat) (cy : Nat → ClassId) (v1 : Int32) (v2 : Int32) (w : Nat) (σ : zz_St) (Qp : Int32 → Prop) (hw : w < 2) (h : zq5_turnedTo v1 v2 w σ Qp) : zz_Mi l yX5_turnedTo wsX5_turnedTo zrm5_turnedTo D (tysC cy) (wC ad cy) nwC [.ref (ad (6 + w)), .int v1, .int v2] σ (fun r σ2 => σ2 = σ ∧ Qp r) :=
  zz_Mi.of zz_nwC (wC_ad ad cy) (by decide +kernel) rfl ⟨rfl, rfl⟩ (Nat.le_of_ble_eq_true rfl) (fun p e s m args below meth c A QW K hret => zu5_turnedTo_0 K hw (fun r hn hq pc lv hd => hret r σ hn ⟨rfl, hq⟩ pc lv hd) h)
theorem zin_X6_rolledTetra_X6 : ∀ w ∈ wsX60, w ∈ wsX6_rolledTetra := fun w h => List.mem_cons_of_mem _ (List.mem_append_left _ (List.mem_append_right _ h))
theorem zlk_X6_rolledTetra_1 : Cond.fieldLink RX6 35 "SolidsRolled$World" "columns" "I" ∈ wsX6_rolledTetra := List.mem_of_getElem? (i := 1) rfl
theorem zlk_X6_rolledTetra_2 : Cond.fieldLink RX6 31 "SolidsRolled$World" "rows" "I" ∈ wsX6_rolledTetra := List.mem_of_getElem? (i := 2) rfl
theorem zlk_X6_rolledTetra_3 : Cond.fieldLink RX6 38 "SolidsRolled$World" "kind" "I" ∈ wsX6_rolledTetra := List.mem_of_getElem? (i := 3) rfl
theorem zlk_X6_rolledTetra_4 : Cond.fieldLink RX6 22 "SolidsRolled$World" "prints" "[I" ∈ wsX6_rolledTetra := List.mem_of_getElem? (i := 4) rfl
theorem zlk_X6_rolledTetra_5 : Cond.fieldLink RX6 15 "SolidsRolled$World" "tetras" "LSolidsRolled$Stances;" ∈ wsX6_rolledTetra := List.mem_of_getElem? (i := 5) rfl
theorem zdsC_yX5_turnedTo_v : yX5_turnedTo.cls = RX5 ∧ yX5_turnedTo.cls ≠ "java/lang/invoke/MethodHandle" ∧ yX5_turnedTo.cls ≠ "java/lang/invoke/VarHandle" ∧ (parseMethodDescriptor yX5_turnedTo.desc).map (fun d => d.parameters.length) = some 2 := by decide +kernel
theorem zdsC_yX6_bears_v : yX6_bears.cls = RX6 ∧ yX6_bears.cls ≠ "java/lang/invoke/MethodHandle" ∧ yX6_bears.cls ≠ "java/lang/invoke/VarHandle" ∧ (parseMethodDescriptor yX6_bears.desc).map (fun d => d.parameters.length) = some 2 := by decide +kernel
theorem zdsC_yX6_rowOf_s : yX6_rowOf.cls ≠ "java/lang/invoke/MethodHandle" ∧ yX6_rowOf.cls ≠ "java/lang/invoke/VarHandle" ∧ (parseMethodDescriptor yX6_rowOf.desc).map (fun d => d.parameters.length) = some 2 := by decide +kernel
abbrev zrm6_rolledTetra : Room := { frames := 1, cells := 0, slots := 0, locals := 22 }
set_option maxHeartbeats 4000000 in
set_option maxRecDepth 100000 in
theorem zu6_rolledTetra_188 {p : Program} {l : Launch} {e : Env} {s : State} {m : MethodId} {args : Array Value} {below : List Frame} {meth : Method} {c : Code} {Q : State → Prop} {D : va_G} {A : Nat → Prop} {ad : Nat → Nat} {cy : Nat → ClassId} {v1 : Int32} {v2 : Int32} {v4 : Int32} {v5 : Int32} {v6 : Int32} {σ : zz_St} (K : zz_K p s m args c cX6_rolledTetra 9 RX6 wsX6_rolledTetra D (tysC cy) A (wC ad cy) nwC) {Qp : Int32 → Prop} (hret : ∀ (r : Int32), narrow .int (.int r) = .int r → Qp r → ∀ (pc : Nat) (lv : List (Nat × Value)), decode cX6_rolledTetra pc = .ok (.ireturn, 1) → zz_G p l e zrm6_rolledTetra s m args below meth c Q D A (wC ad cy) 9 pc lv [.int r] σ) (h : zq6_rolledTetra_188 v1 v2 v4 v5 v6 σ Qp) : zz_G p l e zrm6_rolledTetra s m args below meth c Q D A (wC ad cy) 9 188 [(0, .ref (ad 1)), (1, .int v1), (2, .int v2), (4, .int v4), (5, .int v5), (6, .int v6)] [] σ := by
  unfold zq6_rolledTetra_188 at h
  refine zz_iload K 4 dX6_rolledTetra_188 rfl ?_
  refine zz_iload K 3 dX6_rolledTetra_190 rfl ?_
  refine zz_imul K dX6_rolledTetra_192 ?_
  refine zz_iload K 5 dX6_rolledTetra_193 rfl ?_
  refine zz_iadd K dX6_rolledTetra_195 ?_
  refine zz_bipush K dX6_rolledTetra_196 zcCb_24 ?_
  refine zz_imul K dX6_rolledTetra_198 ?_
  refine zz_aload_n K 0 dX6_rolledTetra_199 rfl rfl ?_
  refine zg6_1_0 K zin_X6_rolledTetra_X6 zlk_X6_rolledTetra_5 dX6_rolledTetra_200 ?_
  refine zz_iload_n K 1 dX6_rolledTetra_203 rfl rfl ?_
  refine zz_bipush K dX6_rolledTetra_204 zcCb_24 ?_
  refine zz_irem K (by decide : ¬ (24 : Int32) = 0) dX6_rolledTetra_206 ?_
  refine zz_iload_n K 2 dX6_rolledTetra_207 rfl rfl ?_
  refine zz_callVi1 K zz_nwC [.int (v1 - v1 / (24 : Int32) * (24 : Int32)), .int v2] (zc5_turnedTo l D ad cy (v1 - v1 / (24 : Int32) * (24 : Int32)) v2 (1) σ _ (by decide) h) gX6_rolledTetra_X5_turnedTo rfl ⟨rfl, rfl⟩ zdsC_yX5_turnedTo_v ⟨Nat.le_of_ble_eq_true rfl, Nat.le_of_ble_eq_true rfl⟩ (wC_at_7 ad cy σ) rfl rfl rfl rfl (Nat.le_of_ble_eq_true rfl) dX6_rolledTetra_208 (fun r26 h => ?_)
  refine zz_iadd K dX6_rolledTetra_211 ?_
  exact hret _ rfl h _ _ dX6_rolledTetra_212
set_option maxHeartbeats 4000000 in
set_option maxRecDepth 100000 in
theorem zu6_rolledTetra_112 {p : Program} {l : Launch} {e : Env} {s : State} {m : MethodId} {args : Array Value} {below : List Frame} {meth : Method} {c : Code} {Q : State → Prop} {D : va_G} {A : Nat → Prop} {ad : Nat → Nat} {cy : Nat → ClassId} {v1 : Int32} {v2 : Int32} {v4 : Int32} {v5 : Int32} {s0 : Int32} {s1 : Int32} {σ : zz_St} (K : zz_K p s m args c cX6_rolledTetra 9 RX6 wsX6_rolledTetra D (tysC cy) A (wC ad cy) nwC) {Qp : Int32 → Prop} (hret : ∀ (r : Int32), narrow .int (.int r) = .int r → Qp r → ∀ (pc : Nat) (lv : List (Nat × Value)), decode cX6_rolledTetra pc = .ok (.ireturn, 1) → zz_G p l e zrm6_rolledTetra s m args below meth c Q D A (wC ad cy) 9 pc lv [.int r] σ) (h : zq6_rolledTetra_112 v1 v2 v4 v5 s0 s1 σ Qp) : zz_G p l e zrm6_rolledTetra s m args below meth c Q D A (wC ad cy) 9 112 [(0, .ref (ad 1)), (1, .int v1), (2, .int v2), (4, .int v4), (5, .int v5)] [.int s0, .int s1] σ := by
  unfold zq6_rolledTetra_112 at h
  refine zz_iadd K dX6_rolledTetra_112 ?_
  refine zz_nmi (fun x27 ex27 => ?_)
  have h := h x27 ex27
  refine zz_istore K [(6, .int x27), (0, .ref (ad 1)), (1, .int v1), (2, .int v2), (4, .int v4), (5, .int v5)] dX6_rolledTetra_113 (by decide) rfl ?_
  refine zz_iload K 5 dX6_rolledTetra_115 rfl ?_
  refine zz_if_lt K 141 dX6_rolledTetra_117 rfl (fun c28 => ?_) (fun c28 => ?_)
  · have h := (And.left h) c28
    refine zz_iconst K dX6_rolledTetra_141 zcCi_m1 ?_
    exact hret _ rfl h _ _ dX6_rolledTetra_142
  · have h := (And.right h) c28
    refine zz_iload K 5 dX6_rolledTetra_120 rfl ?_
    refine zz_aload_n K 1 dX6_rolledTetra_122 rfl rfl ?_
    refine zg6_4_0 K zin_X6_rolledTetra_X6 zlk_X6_rolledTetra_2 dX6_rolledTetra_123 ?_
    refine zz_icmp_ge K 141 dX6_rolledTetra_126 rfl (fun c29 => ?_) (fun c29 => ?_)
    · have h := (And.left h) c29
      refine zz_iconst K dX6_rolledTetra_141 zcCi_m1 ?_
      exact hret _ rfl h _ _ dX6_rolledTetra_142
    · have h := (And.right h) c29
      refine zz_iload K 0 dX6_rolledTetra_129 rfl ?_
      refine zz_if_lt K 141 dX6_rolledTetra_131 rfl (fun c30 => ?_) (fun c30 => ?_)
      · have h := (And.left h) c30
        refine zz_iconst K dX6_rolledTetra_141 zcCi_m1 ?_
        exact hret _ rfl h _ _ dX6_rolledTetra_142
      · have h := (And.right h) c30
        refine zz_iload K 0 dX6_rolledTetra_134 rfl ?_
        refine zz_iload K 4 dX6_rolledTetra_136 rfl ?_
        refine zz_icmp_lt K 143 dX6_rolledTetra_138 rfl (fun c31 => ?_) (fun c31 => ?_)
        · have h := (And.left h) c31
          refine zz_iload K 5 dX6_rolledTetra_143 rfl ?_
          refine zz_aload_n K 1 dX6_rolledTetra_145 rfl rfl ?_
          refine zg6_5_0 K zin_X6_rolledTetra_X6 zlk_X6_rolledTetra_1 dX6_rolledTetra_146 ?_
          refine zz_imul K dX6_rolledTetra_149 ?_
          refine zz_iload K 0 dX6_rolledTetra_150 rfl ?_
          refine zz_iconst K dX6_rolledTetra_152 zcCi_2 ?_
          refine zz_idiv K (by decide : ¬ (2 : Int32) = 0) dX6_rolledTetra_153 ?_
          refine zz_iadd K dX6_rolledTetra_154 ?_
          refine zz_nmi (fun x32 ex32 => ?_)
          have h := h x32 ex32
          refine zz_istore K [(8, .int x32), (6, .int x27), (0, .ref (ad 1)), (1, .int v1), (2, .int v2), (4, .int v4), (5, .int v5)] dX6_rolledTetra_155 (by decide) rfl ?_
          refine zz_aload_n K 2 dX6_rolledTetra_157 rfl rfl ?_
          refine zz_iload K 0 dX6_rolledTetra_158 rfl ?_
          refine zz_iconst K dX6_rolledTetra_160 zcCi_0 ?_
          refine zz_callVi1 K zz_nwC [.int x32, .int (0 : Int32)] (zc6_bears l D ad cy x32 (0 : Int32) σ _  h) gX6_rolledTetra_X6_bears rfl ⟨rfl, rfl⟩ zdsC_yX6_bears_v ⟨Nat.le_of_ble_eq_true rfl, Nat.le_of_ble_eq_true rfl⟩ (wC_at_1 ad cy σ) rfl rfl rfl rfl (Nat.le_of_ble_eq_true rfl) dX6_rolledTetra_161 (fun r33 h => ?_)
          refine zz_if_eq K 186 dX6_rolledTetra_164 rfl (fun c34 => ?_) (fun c34 => ?_)
          · have h := (And.left h) c34
            refine zz_iconst K dX6_rolledTetra_186 zcCi_m1 ?_
            exact hret _ rfl h _ _ dX6_rolledTetra_187
          · have h := (And.right h) c34
            refine zz_aload_n K 2 dX6_rolledTetra_167 rfl rfl ?_
            refine zg6_6_0 K zin_X6_rolledTetra_X6 zlk_X6_rolledTetra_3 dX6_rolledTetra_168 ?_
            refine zz_iconst K dX6_rolledTetra_171 zcCi_5 ?_
            refine zz_icmp_ne K 188 dX6_rolledTetra_172 rfl (fun c35 => ?_) (fun c35 => ?_)
            · have h := (And.left h) c35
              refine zz_sub [2, 3, 4, 5, 6, 1] [(0, .ref (ad 1)), (1, .int v1), (2, .int v2), (4, .int v4), (5, .int v5), (6, .int x27)] rfl ?_
              exact zu6_rolledTetra_188 K hret h
            · have h := (And.right h) c35
              refine zz_aload_n K 2 dX6_rolledTetra_175 rfl rfl ?_
              refine zg6_3_0 K zin_X6_rolledTetra_X6 zlk_X6_rolledTetra_4 dX6_rolledTetra_176 ?_
              refine zz_iload K 0 dX6_rolledTetra_179 rfl ?_
              obtain ⟨hin, h⟩ := h
              refine zz_iaload K 0 (wC_at_16 ad cy σ) rfl hin dX6_rolledTetra_181 ?_
              refine zz_iconst K dX6_rolledTetra_182 zcCi_m1 ?_
              refine zz_icmp_eq K 188 dX6_rolledTetra_183 rfl (fun c36 => ?_) (fun c36 => ?_)
              · have h := (And.left h) c36
                refine zz_sub [2, 3, 4, 5, 6, 1] [(0, .ref (ad 1)), (1, .int v1), (2, .int v2), (4, .int v4), (5, .int v5), (6, .int x27)] rfl ?_
                exact zu6_rolledTetra_188 K hret h
              · have h := (And.right h) c36
                refine zz_iconst K dX6_rolledTetra_186 zcCi_m1 ?_
                exact hret _ rfl h _ _ dX6_rolledTetra_187
        · have h := (And.right h) c31
          refine zz_iconst K dX6_rolledTetra_141 zcCi_m1 ?_
          exact hret _ rfl h _ _ dX6_rolledTetra_142
set_option maxHeartbeats 4000000 in
set_option maxRecDepth 100000 in
theorem zu6_rolledTetra_88 {p : Program} {l : Launch} {e : Env} {s : State} {m : MethodId} {args : Array Value} {below : List Frame} {meth : Method} {c : Code} {Q : State → Prop} {D : va_G} {A : Nat → Prop} {ad : Nat → Nat} {cy : Nat → ClassId} {v1 : Int32} {v2 : Int32} {v4 : Int32} {v6 : Int32} {s0 : Int32} {s1 : Int32} {σ : zz_St} (K : zz_K p s m args c cX6_rolledTetra 9 RX6 wsX6_rolledTetra D (tysC cy) A (wC ad cy) nwC) {Qp : Int32 → Prop} (hret : ∀ (r : Int32), narrow .int (.int r) = .int r → Qp r → ∀ (pc : Nat) (lv : List (Nat × Value)), decode cX6_rolledTetra pc = .ok (.ireturn, 1) → zz_G p l e zrm6_rolledTetra s m args below meth c Q D A (wC ad cy) 9 pc lv [.int r] σ) (h : zq6_rolledTetra_88 v1 v2 v4 v6 s0 s1 σ Qp) : zz_G p l e zrm6_rolledTetra s m args below meth c Q D A (wC ad cy) 9 88 [(0, .ref (ad 1)), (1, .int v1), (2, .int v2), (4, .int v4), (6, .int v6)] [.int s0, .int s1] σ := by
  unfold zq6_rolledTetra_88 at h
  refine zz_iadd K dX6_rolledTetra_88 ?_
  refine zz_nmi (fun x37 ex37 => ?_)
  have h := h x37 ex37
  refine zz_istore K [(5, .int x37), (0, .ref (ad 1)), (1, .int v1), (2, .int v2), (4, .int v4), (6, .int v6)] dX6_rolledTetra_89 (by decide) rfl ?_
  refine zz_iload K 5 dX6_rolledTetra_91 rfl ?_
  refine zz_iload_n K 3 dX6_rolledTetra_93 rfl rfl ?_
  refine zz_iconst K dX6_rolledTetra_94 zcCi_1 ?_
  refine zz_icmp_ne K 102 dX6_rolledTetra_95 rfl (fun c38 => ?_) (fun c38 => ?_)
  · have h := (And.left h) c38
    refine zz_iload_n K 3 dX6_rolledTetra_102 rfl rfl ?_
    refine zz_iconst K dX6_rolledTetra_103 zcCi_3 ?_
    refine zz_icmp_ne K 111 dX6_rolledTetra_104 rfl (fun c39 => ?_) (fun c39 => ?_)
    · have h := (And.left h) c39
      refine zz_iconst K dX6_rolledTetra_111 zcCi_0 ?_
      refine zz_sub [1, 2, 3, 4, 0] [(0, .ref (ad 1)), (1, .int v1), (2, .int v2), (4, .int v4), (5, .int x37)] rfl ?_
      exact zu6_rolledTetra_112 K hret h
    · have h := (And.right h) c39
      refine zz_iconst K dX6_rolledTetra_107 zcCi_m1 ?_
      refine zz_goto K 112 dX6_rolledTetra_108 rfl ?_
      refine zz_sub [1, 2, 3, 4, 0] [(0, .ref (ad 1)), (1, .int v1), (2, .int v2), (4, .int v4), (5, .int x37)] rfl ?_
      exact zu6_rolledTetra_112 K hret h
  · have h := (And.right h) c38
    refine zz_iconst K dX6_rolledTetra_98 zcCi_1 ?_
    refine zz_goto K 112 dX6_rolledTetra_99 rfl ?_
    refine zz_sub [1, 2, 3, 4, 0] [(0, .ref (ad 1)), (1, .int v1), (2, .int v2), (4, .int v4), (5, .int x37)] rfl ?_
    exact zu6_rolledTetra_112 K hret h
set_option maxHeartbeats 4000000 in
set_option maxRecDepth 100000 in
theorem zu6_rolledTetra_68 {p : Program} {l : Launch} {e : Env} {s : State} {m : MethodId} {args : Array Value} {below : List Frame} {meth : Method} {c : Code} {Q : State → Prop} {D : va_G} {A : Nat → Prop} {ad : Nat → Nat} {cy : Nat → ClassId} {v1 : Int32} {v2 : Int32} {v4 : Int32} {v5 : Int32} {v6 : Int32} {σ : zz_St} (K : zz_K p s m args c cX6_rolledTetra 9 RX6 wsX6_rolledTetra D (tysC cy) A (wC ad cy) nwC) {Qp : Int32 → Prop} (hret : ∀ (r : Int32), narrow .int (.int r) = .int r → Qp r → ∀ (pc : Nat) (lv : List (Nat × Value)), decode cX6_rolledTetra pc = .ok (.ireturn, 1) → zz_G p l e zrm6_rolledTetra s m args below meth c Q D A (wC ad cy) 9 pc lv [.int r] σ) (h : zq6_rolledTetra_68 v1 v2 v4 v5 v6 σ Qp) : zz_G p l e zrm6_rolledTetra s m args below meth c Q D A (wC ad cy) 9 68 [(0, .ref (ad 1)), (1, .int v1), (2, .int v2), (4, .int v4), (5, .int v5), (6, .int v6)] [] σ := by
  unfold zq6_rolledTetra_68 at h
  refine zz_iload K 4 dX6_rolledTetra_68 rfl ?_
  refine zz_iload_n K 2 dX6_rolledTetra_70 rfl rfl ?_
  refine zz_iconst K dX6_rolledTetra_71 zcCi_2 ?_
  refine zz_icmp_ne K 79 dX6_rolledTetra_72 rfl (fun c40 => ?_) (fun c40 => ?_)
  · have h := (And.left h) c40
    refine zz_iload_n K 2 dX6_rolledTetra_79 rfl rfl ?_
    refine zz_if_ne K 87 dX6_rolledTetra_80 rfl (fun c41 => ?_) (fun c41 => ?_)
    · have h := (And.left h) c41
      refine zz_iconst K dX6_rolledTetra_87 zcCi_0 ?_
      refine zz_sub [0, 1, 2, 3, 5] [(0, .ref (ad 1)), (1, .int v1), (2, .int v2), (4, .int v4), (6, .int v6)] rfl ?_
      exact zu6_rolledTetra_88 K hret h
    · have h := (And.right h) c41
      refine zz_iconst K dX6_rolledTetra_83 zcCi_m1 ?_
      refine zz_goto K 88 dX6_rolledTetra_84 rfl ?_
      refine zz_sub [0, 1, 2, 3, 5] [(0, .ref (ad 1)), (1, .int v1), (2, .int v2), (4, .int v4), (6, .int v6)] rfl ?_
      exact zu6_rolledTetra_88 K hret h
  · have h := (And.right h) c40
    refine zz_iconst K dX6_rolledTetra_75 zcCi_1 ?_
    refine zz_goto K 88 dX6_rolledTetra_76 rfl ?_
    refine zz_sub [0, 1, 2, 3, 5] [(0, .ref (ad 1)), (1, .int v1), (2, .int v2), (4, .int v4), (6, .int v6)] rfl ?_
    exact zu6_rolledTetra_88 K hret h
set_option maxHeartbeats 4000000 in
set_option maxRecDepth 100000 in
theorem zu6_rolledTetra_56 {p : Program} {l : Launch} {e : Env} {s : State} {m : MethodId} {args : Array Value} {below : List Frame} {meth : Method} {c : Code} {Q : State → Prop} {D : va_G} {A : Nat → Prop} {ad : Nat → Nat} {cy : Nat → ClassId} {v1 : Int32} {v2 : Int32} {v4 : Int32} {v5 : Int32} {v6 : Int32} {v7 : Int32} {σ : zz_St} (K : zz_K p s m args c cX6_rolledTetra 9 RX6 wsX6_rolledTetra D (tysC cy) A (wC ad cy) nwC) {Qp : Int32 → Prop} (hret : ∀ (r : Int32), narrow .int (.int r) = .int r → Qp r → ∀ (pc : Nat) (lv : List (Nat × Value)), decode cX6_rolledTetra pc = .ok (.ireturn, 1) → zz_G p l e zrm6_rolledTetra s m args below meth c Q D A (wC ad cy) 9 pc lv [.int r] σ) (h : zq6_rolledTetra_56 v1 v2 v4 v5 v6 v7 σ Qp) : zz_G p l e zrm6_rolledTetra s m args below meth c Q D A (wC ad cy) 9 56 [(0, .ref (ad 1)), (1, .int v1), (2, .int v2), (4, .int v4), (5, .int v5), (6, .int v6), (7, .int v7)] [] σ := by
  unfold zq6_rolledTetra_56 at h
  refine zz_iload_n K 2 dX6_rolledTetra_56 rfl rfl ?_
  refine zz_iconst K dX6_rolledTetra_57 zcCi_2 ?_
  refine zz_icmp_ne K 68 dX6_rolledTetra_58 rfl (fun c42 => ?_) (fun c42 => ?_)
  · have h := (And.left h) c42
    refine zz_sub [0, 1, 2, 3, 4, 5] [(0, .ref (ad 1)), (1, .int v1), (2, .int v2), (4, .int v4), (5, .int v5), (6, .int v6)] rfl ?_
    exact zu6_rolledTetra_68 K hret h
  · have h := (And.right h) c42
    refine zz_iload K 6 dX6_rolledTetra_61 rfl ?_
    refine zz_if_ne K 68 dX6_rolledTetra_63 rfl (fun c43 => ?_) (fun c43 => ?_)
    · have h := (And.left h) c43
      refine zz_sub [0, 1, 2, 3, 4, 5] [(0, .ref (ad 1)), (1, .int v1), (2, .int v2), (4, .int v4), (5, .int v5), (6, .int v6)] rfl ?_
      exact zu6_rolledTetra_68 K hret h
    · have h := (And.right h) c43
      refine zz_iconst K dX6_rolledTetra_66 zcCi_m1 ?_
      exact hret _ rfl h _ _ dX6_rolledTetra_67
set_option maxHeartbeats 4000000 in
set_option maxRecDepth 100000 in
theorem zu6_rolledTetra_45 {p : Program} {l : Launch} {e : Env} {s : State} {m : MethodId} {args : Array Value} {below : List Frame} {meth : Method} {c : Code} {Q : State → Prop} {D : va_G} {A : Nat → Prop} {ad : Nat → Nat} {cy : Nat → ClassId} {v1 : Int32} {v2 : Int32} {v4 : Int32} {v5 : Int32} {v6 : Int32} {s0 : Int32} {σ : zz_St} (K : zz_K p s m args c cX6_rolledTetra 9 RX6 wsX6_rolledTetra D (tysC cy) A (wC ad cy) nwC) {Qp : Int32 → Prop} (hret : ∀ (r : Int32), narrow .int (.int r) = .int r → Qp r → ∀ (pc : Nat) (lv : List (Nat × Value)), decode cX6_rolledTetra pc = .ok (.ireturn, 1) → zz_G p l e zrm6_rolledTetra s m args below meth c Q D A (wC ad cy) 9 pc lv [.int r] σ) (h : zq6_rolledTetra_45 v1 v2 v4 v5 v6 s0 σ Qp) : zz_G p l e zrm6_rolledTetra s m args below meth c Q D A (wC ad cy) 9 45 [(0, .ref (ad 1)), (1, .int v1), (2, .int v2), (4, .int v4), (5, .int v5), (6, .int v6)] [.int s0] σ := by
  unfold zq6_rolledTetra_45 at h
  refine zz_istore K [(7, .int s0), (0, .ref (ad 1)), (1, .int v1), (2, .int v2), (4, .int v4), (5, .int v5), (6, .int v6)] dX6_rolledTetra_45 (by decide) rfl ?_
  refine zz_iload_n K 3 dX6_rolledTetra_47 rfl rfl ?_
  refine zz_if_ne K 56 dX6_rolledTetra_48 rfl (fun c44 => ?_) (fun c44 => ?_)
  · have h := (And.left h) c44
    refine zz_sub [1, 2, 3, 4, 5, 6, 0] [(0, .ref (ad 1)), (1, .int v1), (2, .int v2), (4, .int v4), (5, .int v5), (6, .int v6), (7, .int s0)] rfl ?_
    exact zu6_rolledTetra_56 K hret h
  · have h := (And.right h) c44
    refine zz_iload K 0 dX6_rolledTetra_51 rfl ?_
    refine zz_if_ne K 66 dX6_rolledTetra_53 rfl (fun c45 => ?_) (fun c45 => ?_)
    · have h := (And.left h) c45
      refine zz_iconst K dX6_rolledTetra_66 zcCi_m1 ?_
      exact hret _ rfl h _ _ dX6_rolledTetra_67
    · have h := (And.right h) c45
      refine zz_sub [1, 2, 3, 4, 5, 6, 0] [(0, .ref (ad 1)), (1, .int v1), (2, .int v2), (4, .int v4), (5, .int v5), (6, .int v6), (7, .int s0)] rfl ?_
      exact zu6_rolledTetra_56 K hret h
set_option maxHeartbeats 4000000 in
set_option maxRecDepth 100000 in
theorem zu6_rolledTetra_0 {p : Program} {l : Launch} {e : Env} {s : State} {m : MethodId} {args : Array Value} {below : List Frame} {meth : Method} {c : Code} {Q : State → Prop} {D : va_G} {A : Nat → Prop} {ad : Nat → Nat} {cy : Nat → ClassId} {v1 : Int32} {v2 : Int32} {σ : zz_St} (K : zz_K p s m args c cX6_rolledTetra 9 RX6 wsX6_rolledTetra D (tysC cy) A (wC ad cy) nwC) {Qp : Int32 → Prop} (hret : ∀ (r : Int32), narrow .int (.int r) = .int r → Qp r → ∀ (pc : Nat) (lv : List (Nat × Value)), decode cX6_rolledTetra pc = .ok (.ireturn, 1) → zz_G p l e zrm6_rolledTetra s m args below meth c Q D A (wC ad cy) 9 pc lv [.int r] σ) (h : zq6_rolledTetra v1 v2 σ Qp) : zz_G p l e zrm6_rolledTetra s m args below meth c Q D A (wC ad cy) 9 0 [(0, .ref (ad 1)), (1, .int v1), (2, .int v2)] [] σ := by
  unfold zq6_rolledTetra at h
  refine zz_iload_n K 1 dX6_rolledTetra_0 rfl rfl ?_
  refine zz_bipush K dX6_rolledTetra_1 zcCb_24 ?_
  refine zz_idiv K (by decide : ¬ (24 : Int32) = 0) dX6_rolledTetra_3 ?_
  refine zz_nmi (fun x46 ex46 => ?_)
  have h := h x46 ex46
  refine zz_istore_n K [(3, .int x46), (0, .ref (ad 1)), (1, .int v1), (2, .int v2)] dX6_rolledTetra_4 rfl (by decide) rfl ?_
  refine zz_iconst K dX6_rolledTetra_5 zcCi_2 ?_
  refine zz_aload_n K 1 dX6_rolledTetra_6 rfl rfl ?_
  refine zg6_5_0 K zin_X6_rolledTetra_X6 zlk_X6_rolledTetra_1 dX6_rolledTetra_7 ?_
  refine zz_imul K dX6_rolledTetra_10 ?_
  refine zz_nmi (fun x47 ex47 => ?_)
  have h := h x47 ex47
  refine zz_istore K [(4, .int x47), (3, .int x46), (0, .ref (ad 1)), (1, .int v1), (2, .int v2)] dX6_rolledTetra_11 (by decide) rfl ?_
  refine zz_iload_n K 1 dX6_rolledTetra_13 rfl rfl ?_
  refine zz_iload K 0 dX6_rolledTetra_14 rfl ?_
  refine zz_callSi1 K zz_nwC [.int x46, .int x47] (zc6_rowOf l D ad cy x46 x47 σ _  h) gX6_rolledTetra_X6_rowOf rfl ⟨rfl, rfl⟩ zdsC_yX6_rowOf_s ⟨Nat.le_of_ble_eq_true rfl, Nat.le_of_ble_eq_true rfl⟩ rfl rfl (Nat.le_of_ble_eq_true rfl) dX6_rolledTetra_16 (fun r48 h => ?_)
  refine zz_istore K [(5, .int r48), (4, .int x47), (3, .int x46), (0, .ref (ad 1)), (1, .int v1), (2, .int v2)] dX6_rolledTetra_19 (by decide) rfl ?_
  refine zz_iload_n K 2 dX6_rolledTetra_21 rfl rfl ?_
  refine zz_iload K 0 dX6_rolledTetra_22 rfl ?_
  refine zz_iload K 1 dX6_rolledTetra_24 rfl ?_
  refine zz_imul K dX6_rolledTetra_26 ?_
  refine zz_isub K dX6_rolledTetra_27 ?_
  refine zz_nmi (fun x49 ex49 => ?_)
  have h := h x49 ex49
  refine zz_istore K [(6, .int x49), (5, .int r48), (4, .int x47), (3, .int x46), (0, .ref (ad 1)), (1, .int v1), (2, .int v2)] dX6_rolledTetra_28 (by decide) rfl ?_
  refine zz_iload K 1 dX6_rolledTetra_30 rfl ?_
  refine zz_iload K 0 dX6_rolledTetra_32 rfl ?_
  refine zz_iadd K dX6_rolledTetra_34 ?_
  refine zz_iconst K dX6_rolledTetra_35 zcCi_2 ?_
  refine zz_irem K (by decide : ¬ (2 : Int32) = 0) dX6_rolledTetra_36 ?_
  refine zz_if_ne K 44 dX6_rolledTetra_37 rfl (fun c50 => ?_) (fun c50 => ?_)
  · have h := (And.left h) c50
    refine zz_iconst K dX6_rolledTetra_44 zcCi_0 ?_
    refine zz_sub [4, 5, 6, 2, 1, 0] [(0, .ref (ad 1)), (1, .int v1), (2, .int v2), (4, .int x47), (5, .int r48), (6, .int x49)] rfl ?_
    exact zu6_rolledTetra_45 K hret h
  · have h := (And.right h) c50
    refine zz_iconst K dX6_rolledTetra_40 zcCi_1 ?_
    refine zz_goto K 45 dX6_rolledTetra_41 rfl ?_
    refine zz_sub [4, 5, 6, 2, 1, 0] [(0, .ref (ad 1)), (1, .int v1), (2, .int v2), (4, .int x47), (5, .int r48), (6, .int x49)] rfl ?_
    exact zu6_rolledTetra_45 K hret h
set_option maxRecDepth 100000 in
theorem zc6_rolledTetra (l : Launch) (D : va_G) (ad : Nat → Nat) (cy : Nat → ClassId) (v1 : Int32) (v2 : Int32) (σ : zz_St) (Qp : Int32 → Prop) (h : zq6_rolledTetra v1 v2 σ Qp) : zz_Mi l yX6_rolledTetra wsX6_rolledTetra zrm6_rolledTetra D (tysC cy) (wC ad cy) nwC [.ref (ad 1), .int v1, .int v2] σ (fun r σ2 => σ2 = σ ∧ Qp r) :=
  zz_Mi.of zz_nwC (wC_ad ad cy) (by decide +kernel) rfl ⟨rfl, rfl⟩ (Nat.le_of_ble_eq_true rfl) (fun p e s m args below meth c A QW K hret => zu6_rolledTetra_0 K  (fun r hn hq pc lv hd => hret r σ hn ⟨rfl, hq⟩ pc lv hd) h)
theorem zin_X6_reach_X6 : ∀ w ∈ wsX60, w ∈ wsX6_reach := fun w h => List.mem_cons_of_mem _ (List.mem_append_right _ h)
theorem zlk_X6_reach_1 : Cond.fieldLink RX6 38 "SolidsRolled$World" "kind" "I" ∈ wsX6_reach := List.mem_of_getElem? (i := 1) rfl
theorem zlk_X6_reach_3 : Cond.initialized RX7 ∈ wsX6_reach := List.mem_of_getElem? (i := 3) rfl
theorem zlk_X6_reach_2 : Cond.static yX7_isBlock ∈ wsX6_reach := List.mem_of_getElem? (i := 2) rfl
abbrev zrm6_reach : Room := { frames := 1, cells := 0, slots := 0, locals := 20 }
set_option maxHeartbeats 4000000 in
set_option maxRecDepth 100000 in
theorem zu6_reach_0 {p : Program} {l : Launch} {e : Env} {s : State} {m : MethodId} {args : Array Value} {below : List Frame} {meth : Method} {c : Code} {Q : State → Prop} {D : va_G} {A : Nat → Prop} {ad : Nat → Nat} {cy : Nat → ClassId} {v1 : Int32} {v2 : Int32} {σ : zz_St} (K : zz_K p s m args c cX6_reach 3 RX6 wsX6_reach D (tysC cy) A (wC ad cy) nwC) {Qp : Int32 → Prop} (hret : ∀ (r : Int32), narrow .int (.int r) = .int r → Qp r → ∀ (pc : Nat) (lv : List (Nat × Value)), decode cX6_reach pc = .ok (.ireturn, 1) → zz_G p l e zrm6_reach s m args below meth c Q D A (wC ad cy) 3 pc lv [.int r] σ) (h : zq6_reach v1 v2 σ Qp) : zz_G p l e zrm6_reach s m args below meth c Q D A (wC ad cy) 3 0 [(0, .ref (ad 1)), (1, .int v1), (2, .int v2)] [] σ := by
  unfold zq6_reach at h
  refine zz_aload_n K 0 dX6_reach_0 rfl rfl ?_
  refine zg6_6_0 K zin_X6_reach_X6 zlk_X6_reach_1 dX6_reach_1 ?_
  refine zz_callNi1 K zz_nwC [.int ((σ).1 6)] (zc7_isBlock l D ad cy ((σ).1 6) σ _  h) ggX6_reach_X7_isBlock rfl ⟨rfl, rfl⟩ zdsC_yX7_isBlock_s ⟨Nat.le_of_ble_eq_true rfl, Nat.le_of_ble_eq_true rfl⟩ (List.mem_of_getElem? (i := 1) rfl) zlk_X6_reach_3 zlk_X6_reach_2 rfl rfl (Nat.le_of_ble_eq_true rfl) dX6_reach_4 (fun r6 h => ?_)
  refine zz_if_ne K 12 dX6_reach_7 rfl (fun c7 => ?_) (fun c7 => ?_)
  · have h := (And.left h) c7
    refine zz_iload_n K 2 dX6_reach_12 rfl rfl ?_
    by_cases c11 : v2 = (1 : Int32)
    · have h := (And.left h) c11
      refine zz_look K 40 dX6_reach_13 (by decide) (by rw [c11]) rfl ?_
      refine zz_iload_n K 1 dX6_reach_40 rfl rfl ?_
      refine zz_iconst K dX6_reach_41 zcCi_1 ?_
      refine zz_icmp_ne K 49 dX6_reach_42 rfl (fun c8 => ?_) (fun c8 => ?_)
      · have h := (And.left h) c8
        refine zz_iconst K dX6_reach_49 zcCi_1 ?_
        exact hret _ rfl h _ _ dX6_reach_50
      · have h := (And.right h) c8
        refine zz_iconst K dX6_reach_45 zcCi_2 ?_
        refine zz_goto K 50 dX6_reach_46 rfl ?_
        exact hret _ rfl h _ _ dX6_reach_50
    have h := (And.right h) c11
    by_cases c12 : v2 = (2 : Int32)
    · have h := (And.left h) c12
      refine zz_look K 51 dX6_reach_13 (by decide) (by rw [c12]) rfl ?_
      refine zz_iload_n K 1 dX6_reach_51 rfl rfl ?_
      refine zz_iconst K dX6_reach_52 zcCi_2 ?_
      refine zz_icmp_ne K 60 dX6_reach_53 rfl (fun c9 => ?_) (fun c9 => ?_)
      · have h := (And.left h) c9
        refine zz_iconst K dX6_reach_60 zcCi_1 ?_
        exact hret _ rfl h _ _ dX6_reach_61
      · have h := (And.right h) c9
        refine zz_iconst K dX6_reach_56 zcCi_2 ?_
        refine zz_goto K 61 dX6_reach_57 rfl ?_
        exact hret _ rfl h _ _ dX6_reach_61
    have h := (And.right h) c12
    refine zz_look K 62 dX6_reach_13 (by decide) (by show Op.lookupswitch.offset [(1, 27), (2, 38)] 49 v2.toInt = 49; rw [lv_osw c11 (by decide), lv_osw c12 (by decide)]; rfl) rfl ?_
    refine zz_iload_n K 1 dX6_reach_62 rfl rfl ?_
    refine zz_if_ne K 70 dX6_reach_63 rfl (fun c10 => ?_) (fun c10 => ?_)
    · have h := (And.left h) c10
      refine zz_iconst K dX6_reach_70 zcCi_1 ?_
      exact hret _ rfl h _ _ dX6_reach_71
    · have h := (And.right h) c10
      refine zz_iconst K dX6_reach_66 zcCi_2 ?_
      refine zz_goto K 71 dX6_reach_67 rfl ?_
      exact hret _ rfl h _ _ dX6_reach_71
  · have h := (And.right h) c7
    refine zz_iconst K dX6_reach_10 zcCi_1 ?_
    exact hret _ rfl h _ _ dX6_reach_11
set_option maxRecDepth 100000 in
theorem zc6_reach (l : Launch) (D : va_G) (ad : Nat → Nat) (cy : Nat → ClassId) (v1 : Int32) (v2 : Int32) (σ : zz_St) (Qp : Int32 → Prop) (h : zq6_reach v1 v2 σ Qp) : zz_Mi l yX6_reach wsX6_reach zrm6_reach D (tysC cy) (wC ad cy) nwC [.ref (ad 1), .int v1, .int v2] σ (fun r σ2 => σ2 = σ ∧ Qp r) :=
  zz_Mi.of zz_nwC (wC_ad ad cy) (by decide +kernel) rfl ⟨rfl, rfl⟩ (Nat.le_of_ble_eq_true rfl) (fun p e s m args below meth c A QW K hret => zu6_reach_0 K  (fun r hn hq pc lv hd => hret r σ hn ⟨rfl, hq⟩ pc lv hd) h)
theorem zin_X6_mayLie_X6 : ∀ w ∈ wsX60, w ∈ wsX6_mayLie := fun w h => List.mem_cons_of_mem _ (List.mem_append_right _ h)
theorem zlk_X6_mayLie_1 : Cond.fieldLink RX6 31 "SolidsRolled$World" "rows" "I" ∈ wsX6_mayLie := List.mem_of_getElem? (i := 1) rfl
theorem zlk_X6_mayLie_2 : Cond.fieldLink RX6 35 "SolidsRolled$World" "columns" "I" ∈ wsX6_mayLie := List.mem_of_getElem? (i := 2) rfl
theorem zlk_X6_mayLie_3 : Cond.fieldLink RX6 38 "SolidsRolled$World" "kind" "I" ∈ wsX6_mayLie := List.mem_of_getElem? (i := 3) rfl
abbrev zrm6_mayLie : Room := { frames := 1, cells := 0, slots := 0, locals := 22 }
set_option maxHeartbeats 4000000 in
set_option maxRecDepth 100000 in
theorem zu6_mayLie_81 {p : Program} {l : Launch} {e : Env} {s : State} {m : MethodId} {args : Array Value} {below : List Frame} {meth : Method} {c : Code} {Q : State → Prop} {D : va_G} {A : Nat → Prop} {ad : Nat → Nat} {cy : Nat → ClassId} {v1 : Int32} {v2 : Int32} {v4 : Int32} {v5 : Int32} {s0 : Int32} {σ : zz_St} (K : zz_K p s m args c cX6_mayLie 7 RX6 wsX6_mayLie D (tysC cy) A (wC ad cy) nwC) {Qp : Int32 → Prop} (hret : ∀ (r : Int32), narrow .boolean (.int r) = .int r → Qp r → ∀ (pc : Nat) (lv : List (Nat × Value)), decode cX6_mayLie pc = .ok (.ireturn, 1) → zz_G p l e zrm6_mayLie s m args below meth c Q D A (wC ad cy) 7 pc lv [.int r] σ) (h : zq6_mayLie_81 v1 v2 v4 v5 s0 σ Qp) : zz_G p l e zrm6_mayLie s m args below meth c Q D A (wC ad cy) 7 81 [(0, .ref (ad 1)), (1, .int v1), (2, .int v2), (4, .int v4), (5, .int v5)] [.int s0] σ := by
  unfold zq6_mayLie_81 at h
  refine zz_istore K [(6, .int s0), (0, .ref (ad 1)), (1, .int v1), (2, .int v2), (4, .int v4), (5, .int v5)] dX6_mayLie_81 (by decide) rfl ?_
  refine zz_aload_n K 1 dX6_mayLie_83 rfl rfl ?_
  refine zz_iload_n K 2 dX6_mayLie_84 rfl rfl ?_
  refine zz_aload_n K 1 dX6_mayLie_85 rfl rfl ?_
  refine zg6_5_0 K zin_X6_mayLie_X6 zlk_X6_mayLie_2 dX6_mayLie_86 ?_
  refine zz_imul K dX6_mayLie_89 ?_
  refine zz_iload_n K 3 dX6_mayLie_90 rfl rfl ?_
  refine zz_iadd K dX6_mayLie_91 ?_
  refine zz_iload K 0 dX6_mayLie_92 rfl ?_
  refine zz_callVi1 K zz_nwC [.int ((v1 * ((σ).1 4)) + v2), .int s0] (zc6_bears l D ad cy ((v1 * ((σ).1 4)) + v2) s0 σ _  h) gX6_mayLie_X6_bears rfl ⟨rfl, rfl⟩ zdsC_yX6_bears_v ⟨Nat.le_of_ble_eq_true rfl, Nat.le_of_ble_eq_true rfl⟩ (wC_at_1 ad cy σ) rfl rfl rfl rfl (Nat.le_of_ble_eq_true rfl) dX6_mayLie_94 (fun r14 h => ?_)
  refine zz_if_eq K 123 dX6_mayLie_97 rfl (fun c15 => ?_) (fun c15 => ?_)
  · have h := (And.left h) c15
    refine zz_iconst K dX6_mayLie_123 zcCi_0 ?_
    exact hret _ rfl h _ _ dX6_mayLie_124
  · have h := (And.right h) c15
    refine zz_aload_n K 1 dX6_mayLie_100 rfl rfl ?_
    refine zz_iload K 4 dX6_mayLie_101 rfl ?_
    refine zz_aload_n K 1 dX6_mayLie_103 rfl rfl ?_
    refine zg6_5_0 K zin_X6_mayLie_X6 zlk_X6_mayLie_2 dX6_mayLie_104 ?_
    refine zz_imul K dX6_mayLie_107 ?_
    refine zz_iload K 5 dX6_mayLie_108 rfl ?_
    refine zz_iadd K dX6_mayLie_110 ?_
    refine zz_iload K 0 dX6_mayLie_111 rfl ?_
    refine zz_callVi1 K zz_nwC [.int ((v4 * ((σ).1 4)) + v5), .int s0] (zc6_bears l D ad cy ((v4 * ((σ).1 4)) + v5) s0 σ _  h) gX6_mayLie_X6_bears rfl ⟨rfl, rfl⟩ zdsC_yX6_bears_v ⟨Nat.le_of_ble_eq_true rfl, Nat.le_of_ble_eq_true rfl⟩ (wC_at_1 ad cy σ) rfl rfl rfl rfl (Nat.le_of_ble_eq_true rfl) dX6_mayLie_113 (fun r16 h => ?_)
    refine zz_if_eq K 123 dX6_mayLie_116 rfl (fun c17 => ?_) (fun c17 => ?_)
    · have h := (And.left h) c17
      refine zz_iconst K dX6_mayLie_123 zcCi_0 ?_
      exact hret _ rfl h _ _ dX6_mayLie_124
    · have h := (And.right h) c17
      refine zz_iconst K dX6_mayLie_119 zcCi_1 ?_
      refine zz_goto K 124 dX6_mayLie_120 rfl ?_
      exact hret _ rfl h _ _ dX6_mayLie_124
set_option maxHeartbeats 4000000 in
set_option maxRecDepth 100000 in
theorem zu6_mayLie_76 {p : Program} {l : Launch} {e : Env} {s : State} {m : MethodId} {args : Array Value} {below : List Frame} {meth : Method} {c : Code} {Q : State → Prop} {D : va_G} {A : Nat → Prop} {ad : Nat → Nat} {cy : Nat → ClassId} {v1 : Int32} {v2 : Int32} {v4 : Int32} {v5 : Int32} {σ : zz_St} (K : zz_K p s m args c cX6_mayLie 7 RX6 wsX6_mayLie D (tysC cy) A (wC ad cy) nwC) {Qp : Int32 → Prop} (hret : ∀ (r : Int32), narrow .boolean (.int r) = .int r → Qp r → ∀ (pc : Nat) (lv : List (Nat × Value)), decode cX6_mayLie pc = .ok (.ireturn, 1) → zz_G p l e zrm6_mayLie s m args below meth c Q D A (wC ad cy) 7 pc lv [.int r] σ) (h : zq6_mayLie_76 v1 v2 v4 v5 σ Qp) : zz_G p l e zrm6_mayLie s m args below meth c Q D A (wC ad cy) 7 76 [(0, .ref (ad 1)), (1, .int v1), (2, .int v2), (4, .int v4), (5, .int v5)] [] σ := by
  unfold zq6_mayLie_76 at h
  refine zz_iconst K dX6_mayLie_76 zcCi_1 ?_
  refine zz_goto K 81 dX6_mayLie_77 rfl ?_
  exact zu6_mayLie_81 K hret h
set_option maxHeartbeats 4000000 in
set_option maxRecDepth 100000 in
theorem zu6_mayLie_80 {p : Program} {l : Launch} {e : Env} {s : State} {m : MethodId} {args : Array Value} {below : List Frame} {meth : Method} {c : Code} {Q : State → Prop} {D : va_G} {A : Nat → Prop} {ad : Nat → Nat} {cy : Nat → ClassId} {v1 : Int32} {v2 : Int32} {v4 : Int32} {v5 : Int32} {σ : zz_St} (K : zz_K p s m args c cX6_mayLie 7 RX6 wsX6_mayLie D (tysC cy) A (wC ad cy) nwC) {Qp : Int32 → Prop} (hret : ∀ (r : Int32), narrow .boolean (.int r) = .int r → Qp r → ∀ (pc : Nat) (lv : List (Nat × Value)), decode cX6_mayLie pc = .ok (.ireturn, 1) → zz_G p l e zrm6_mayLie s m args below meth c Q D A (wC ad cy) 7 pc lv [.int r] σ) (h : zq6_mayLie_80 v1 v2 v4 v5 σ Qp) : zz_G p l e zrm6_mayLie s m args below meth c Q D A (wC ad cy) 7 80 [(0, .ref (ad 1)), (1, .int v1), (2, .int v2), (4, .int v4), (5, .int v5)] [] σ := by
  unfold zq6_mayLie_80 at h
  refine zz_iconst K dX6_mayLie_80 zcCi_0 ?_
  exact zu6_mayLie_81 K hret h
set_option maxHeartbeats 4000000 in
set_option maxRecDepth 100000 in
theorem zu6_mayLie_26 {p : Program} {l : Launch} {e : Env} {s : State} {m : MethodId} {args : Array Value} {below : List Frame} {meth : Method} {c : Code} {Q : State → Prop} {D : va_G} {A : Nat → Prop} {ad : Nat → Nat} {cy : Nat → ClassId} {v1 : Int32} {v2 : Int32} {v3 : Int32} {v4 : Int32} {s0 : Int32} {σ : zz_St} (K : zz_K p s m args c cX6_mayLie 7 RX6 wsX6_mayLie D (tysC cy) A (wC ad cy) nwC) {Qp : Int32 → Prop} (hret : ∀ (r : Int32), narrow .boolean (.int r) = .int r → Qp r → ∀ (pc : Nat) (lv : List (Nat × Value)), decode cX6_mayLie pc = .ok (.ireturn, 1) → zz_G p l e zrm6_mayLie s m args below meth c Q D A (wC ad cy) 7 pc lv [.int r] σ) (h : zq6_mayLie_26 v1 v2 v3 v4 s0 σ Qp) : zz_G p l e zrm6_mayLie s m args below meth c Q D A (wC ad cy) 7 26 [(0, .ref (ad 1)), (1, .int v1), (2, .int v2), (3, .int v3), (4, .int v4)] [.int s0] σ := by
  unfold zq6_mayLie_26 at h
  refine zz_istore K [(5, .int s0), (0, .ref (ad 1)), (1, .int v1), (2, .int v2), (3, .int v3), (4, .int v4)] dX6_mayLie_26 (by decide) rfl ?_
  refine zz_iload_n K 2 dX6_mayLie_28 rfl rfl ?_
  refine zz_if_lt K 54 dX6_mayLie_29 rfl (fun c18 => ?_) (fun c18 => ?_)
  · have h := (And.left h) c18
    refine zz_iconst K dX6_mayLie_54 zcCi_0 ?_
    exact hret _ rfl h _ _ dX6_mayLie_55
  · have h := (And.right h) c18
    refine zz_iload K 5 dX6_mayLie_32 rfl ?_
    refine zz_aload_n K 1 dX6_mayLie_34 rfl rfl ?_
    refine zg6_4_0 K zin_X6_mayLie_X6 zlk_X6_mayLie_1 dX6_mayLie_35 ?_
    refine zz_icmp_ge K 54 dX6_mayLie_38 rfl (fun c19 => ?_) (fun c19 => ?_)
    · have h := (And.left h) c19
      refine zz_iconst K dX6_mayLie_54 zcCi_0 ?_
      exact hret _ rfl h _ _ dX6_mayLie_55
    · have h := (And.right h) c19
      refine zz_iload_n K 3 dX6_mayLie_41 rfl rfl ?_
      refine zz_if_lt K 54 dX6_mayLie_42 rfl (fun c20 => ?_) (fun c20 => ?_)
      · have h := (And.left h) c20
        refine zz_iconst K dX6_mayLie_54 zcCi_0 ?_
        exact hret _ rfl h _ _ dX6_mayLie_55
      · have h := (And.right h) c20
        refine zz_iload K 0 dX6_mayLie_45 rfl ?_
        refine zz_aload_n K 1 dX6_mayLie_47 rfl rfl ?_
        refine zg6_5_0 K zin_X6_mayLie_X6 zlk_X6_mayLie_2 dX6_mayLie_48 ?_
        refine zz_icmp_lt K 56 dX6_mayLie_51 rfl (fun c21 => ?_) (fun c21 => ?_)
        · have h := (And.left h) c21
          refine zz_aload_n K 1 dX6_mayLie_56 rfl rfl ?_
          refine zg6_6_0 K zin_X6_mayLie_X6 zlk_X6_mayLie_3 dX6_mayLie_57 ?_
          refine zz_iconst K dX6_mayLie_60 zcCi_1 ?_
          refine zz_icmp_eq K 76 dX6_mayLie_61 rfl (fun c22 => ?_) (fun c22 => ?_)
          · have h := (And.left h) c22
            refine zz_sub [1, 2, 3, 5, 0] [(0, .ref (ad 1)), (1, .int v1), (2, .int v2), (4, .int v4), (5, .int s0)] rfl ?_
            exact zu6_mayLie_76 K hret h
          · have h := (And.right h) c22
            refine zz_aload_n K 1 dX6_mayLie_64 rfl rfl ?_
            refine zg6_6_0 K zin_X6_mayLie_X6 zlk_X6_mayLie_3 dX6_mayLie_65 ?_
            refine zz_iconst K dX6_mayLie_68 zcCi_3 ?_
            refine zz_icmp_ne K 80 dX6_mayLie_69 rfl (fun c23 => ?_) (fun c23 => ?_)
            · have h := (And.left h) c23
              refine zz_sub [1, 2, 3, 5, 0] [(0, .ref (ad 1)), (1, .int v1), (2, .int v2), (4, .int v4), (5, .int s0)] rfl ?_
              exact zu6_mayLie_80 K hret h
            · have h := (And.right h) c23
              refine zz_iload_n K 4 dX6_mayLie_72 rfl rfl ?_
              refine zz_if_eq K 80 dX6_mayLie_73 rfl (fun c24 => ?_) (fun c24 => ?_)
              · have h := (And.left h) c24
                refine zz_sub [1, 2, 3, 5, 0] [(0, .ref (ad 1)), (1, .int v1), (2, .int v2), (4, .int v4), (5, .int s0)] rfl ?_
                exact zu6_mayLie_80 K hret h
              · have h := (And.right h) c24
                refine zz_sub [1, 2, 3, 5, 0] [(0, .ref (ad 1)), (1, .int v1), (2, .int v2), (4, .int v4), (5, .int s0)] rfl ?_
                exact zu6_mayLie_76 K hret h
        · have h := (And.right h) c21
          refine zz_iconst K dX6_mayLie_54 zcCi_0 ?_
          exact hret _ rfl h _ _ dX6_mayLie_55
set_option maxHeartbeats 4000000 in
set_option maxRecDepth 100000 in
theorem zu6_mayLie_12 {p : Program} {l : Launch} {e : Env} {s : State} {m : MethodId} {args : Array Value} {below : List Frame} {meth : Method} {c : Code} {Q : State → Prop} {D : va_G} {A : Nat → Prop} {ad : Nat → Nat} {cy : Nat → ClassId} {v1 : Int32} {v2 : Int32} {v3 : Int32} {s0 : Int32} {σ : zz_St} (K : zz_K p s m args c cX6_mayLie 7 RX6 wsX6_mayLie D (tysC cy) A (wC ad cy) nwC) {Qp : Int32 → Prop} (hret : ∀ (r : Int32), narrow .boolean (.int r) = .int r → Qp r → ∀ (pc : Nat) (lv : List (Nat × Value)), decode cX6_mayLie pc = .ok (.ireturn, 1) → zz_G p l e zrm6_mayLie s m args below meth c Q D A (wC ad cy) 7 pc lv [.int r] σ) (h : zq6_mayLie_12 v1 v2 v3 s0 σ Qp) : zz_G p l e zrm6_mayLie s m args below meth c Q D A (wC ad cy) 7 12 [(0, .ref (ad 1)), (1, .int v1), (2, .int v2), (3, .int v3)] [.int s0] σ := by
  unfold zq6_mayLie_12 at h
  refine zz_istore K [(4, .int s0), (0, .ref (ad 1)), (1, .int v1), (2, .int v2), (3, .int v3)] dX6_mayLie_12 (by decide) rfl ?_
  refine zz_iload_n K 4 dX6_mayLie_14 rfl rfl ?_
  refine zz_iconst K dX6_mayLie_15 zcCi_1 ?_
  refine zz_icmp_ne K 25 dX6_mayLie_16 rfl (fun c25 => ?_) (fun c25 => ?_)
  · have h := (And.left h) c25
    refine zz_iload_n K 3 dX6_mayLie_25 rfl rfl ?_
    refine zz_sub [1, 2, 3, 4, 0] [(0, .ref (ad 1)), (1, .int v1), (2, .int v2), (3, .int v3), (4, .int s0)] rfl ?_
    exact zu6_mayLie_26 K hret h
  · have h := (And.right h) c25
    refine zz_iload_n K 3 dX6_mayLie_19 rfl rfl ?_
    refine zz_iconst K dX6_mayLie_20 zcCi_1 ?_
    refine zz_iadd K dX6_mayLie_21 ?_
    refine zz_goto K 26 dX6_mayLie_22 rfl ?_
    refine zz_sub [1, 2, 3, 4, 0] [(0, .ref (ad 1)), (1, .int v1), (2, .int v2), (3, .int v3), (4, .int s0)] rfl ?_
    exact zu6_mayLie_26 K hret h
set_option maxHeartbeats 4000000 in
set_option maxRecDepth 100000 in
theorem zu6_mayLie_0 {p : Program} {l : Launch} {e : Env} {s : State} {m : MethodId} {args : Array Value} {below : List Frame} {meth : Method} {c : Code} {Q : State → Prop} {D : va_G} {A : Nat → Prop} {ad : Nat → Nat} {cy : Nat → ClassId} {v1 : Int32} {v2 : Int32} {v3 : Int32} {σ : zz_St} (K : zz_K p s m args c cX6_mayLie 7 RX6 wsX6_mayLie D (tysC cy) A (wC ad cy) nwC) {Qp : Int32 → Prop} (hret : ∀ (r : Int32), narrow .boolean (.int r) = .int r → Qp r → ∀ (pc : Nat) (lv : List (Nat × Value)), decode cX6_mayLie pc = .ok (.ireturn, 1) → zz_G p l e zrm6_mayLie s m args below meth c Q D A (wC ad cy) 7 pc lv [.int r] σ) (h : zq6_mayLie v1 v2 v3 σ Qp) : zz_G p l e zrm6_mayLie s m args below meth c Q D A (wC ad cy) 7 0 [(0, .ref (ad 1)), (1, .int v1), (2, .int v2), (3, .int v3)] [] σ := by
  unfold zq6_mayLie at h
  refine zz_iload_n K 3 dX6_mayLie_0 rfl rfl ?_
  refine zz_iconst K dX6_mayLie_1 zcCi_2 ?_
  refine zz_icmp_ne K 11 dX6_mayLie_2 rfl (fun c26 => ?_) (fun c26 => ?_)
  · have h := (And.left h) c26
    refine zz_iload_n K 1 dX6_mayLie_11 rfl rfl ?_
    exact zu6_mayLie_12 K hret h
  · have h := (And.right h) c26
    refine zz_iload_n K 1 dX6_mayLie_5 rfl rfl ?_
    refine zz_iconst K dX6_mayLie_6 zcCi_1 ?_
    refine zz_iadd K dX6_mayLie_7 ?_
    refine zz_goto K 12 dX6_mayLie_8 rfl ?_
    exact zu6_mayLie_12 K hret h
set_option maxRecDepth 100000 in
theorem zc6_mayLie (l : Launch) (D : va_G) (ad : Nat → Nat) (cy : Nat → ClassId) (v1 : Int32) (v2 : Int32) (v3 : Int32) (σ : zz_St) (Qp : Int32 → Prop) (h : zq6_mayLie v1 v2 v3 σ Qp) : zz_Mi l yX6_mayLie wsX6_mayLie zrm6_mayLie D (tysC cy) (wC ad cy) nwC [.ref (ad 1), .int v1, .int v2, .int v3] σ (fun r σ2 => σ2 = σ ∧ Qp r) :=
  zz_Mi.of zz_nwC (wC_ad ad cy) (by decide +kernel) rfl ⟨rfl, rfl⟩ (Nat.le_of_ble_eq_true rfl) (fun p e s m args below meth c A QW K hret => zu6_mayLie_0 K  (fun r hn hq pc lv hd => hret r σ hn ⟨rfl, hq⟩ pc lv hd) h)
