theorem zin_X4_walksEndingAt_X4 : ∀ w ∈ wsX40, w ∈ wsX4_walksEndingAt := fun w h => List.mem_cons_of_mem _ (List.mem_append_left _ (List.mem_append_left _ (List.mem_append_right _ h)))
theorem zlk_X4_walksEndingAt_1 : Cond.fieldLink RX4 27 "SolidsRolled$Search" "now" "[I" ∈ wsX4_walksEndingAt := List.mem_of_getElem? (i := 1) rfl
theorem zin_X4_walksEndingAt_X6 : ∀ w ∈ wsX60, w ∈ wsX4_walksEndingAt := fun w h => List.mem_cons_of_mem _ (List.mem_append_left _ (List.mem_append_right _ h))
theorem zlk_X4_walksEndingAt_2 : Cond.fieldLink RX4 47 "SolidsRolled$World" "state" "I" ∈ wsX4_walksEndingAt := List.mem_of_getElem? (i := 2) rfl
theorem zdsC_yX4_spread_v : yX4_spread.cls = RX4 ∧ yX4_spread.cls ≠ "java/lang/invoke/MethodHandle" ∧ yX4_spread.cls ≠ "java/lang/invoke/VarHandle" ∧ (parseMethodDescriptor yX4_spread.desc).map (fun d => d.parameters.length) = some 1 := by decide +kernel
abbrev zrm4_walksEndingAt : Room := { frames := 4, cells := 0, slots := 0, locals := 101 }
set_option maxHeartbeats 4000000 in
set_option maxRecDepth 100000 in
theorem zu4_walksEndingAt_44 {p : Program} {l : Launch} {e : Env} {s : State} {m : MethodId} {args : Array Value} {below : List Frame} {meth : Method} {c : Code} {Q : State → Prop} {D : va_G} {A : Nat → Prop} {ad : Nat → Nat} {cy : Nat → ClassId} {v3 : Int32} {v4 : Int64} {v6 : Int32} {σ : zz_St} (K : zz_K p s m args c cX4_walksEndingAt 7 RX4 wsX4_walksEndingAt D (tysC cy) A (wC ad cy) nwC) {Qp : Int64 → zz_St → Prop} (hret : ∀ (r : Int64) (σ2 : zz_St), Qp r σ2 → ∀ (pc : Nat) (lv : List (Nat × Value)), decode cX4_walksEndingAt pc = .ok (.lreturn, 1) → zz_G p l e zrm4_walksEndingAt s m args below meth c Q D A (wC ad cy) 7 pc lv [.long r] σ2) (h : zq4_walksEndingAt_44 v3 v4 v6 σ Qp) : zz_G p l e zrm4_walksEndingAt s m args below meth c Q D A (wC ad cy) 7 44 [(0, .ref (ad 4)), (3, .int v3), (4, .long v4), (6, .int v6)] [] σ := by
  unfold zq4_walksEndingAt_44 at h
  obtain ⟨I44, M44, h0, hs⟩ := h
  have key : ∀ (nq : Nat) (v4 : Int64) (v6 : Int32), M44 v4 v6 < nq → I44 v4 v6 → zz_G p l e zrm4_walksEndingAt s m args below meth c Q D A (wC ad cy) 7 44 [(0, .ref (ad 4)), (3, .int v3), (4, .long v4), (6, .int v6)] [] σ := by
    intro nq
    induction nq with
    | zero => intro v4 v6 hlt; exact absurd hlt (Nat.not_lt_zero _)
    | succ nq ih =>
      intro v4 v6 hlt hI
      have h := hs v4 v6 hI
      have hB44 : ∀ (v4' : Int64) (v6' : Int32), (fun v4' v6' => I44 v4' v6' ∧ M44 v4' v6' < M44 v4 v6) v4' v6' → zz_G p l e zrm4_walksEndingAt s m args below meth c Q D A (wC ad cy) 7 44 [(0, .ref (ad 4)), (3, .int v3), (4, .long v4'), (6, .int v6')] [] σ := fun v4' v6' hz => ih v4' v6' (Nat.lt_of_lt_of_le hz.2 (Nat.le_of_lt_succ hlt)) hz.1
      refine zz_iload K 3 dX4_walksEndingAt_44 rfl ?_
      refine zz_bipush K dX4_walksEndingAt_46 zcCb_24 ?_
      refine zz_icmp_ge K 75 dX4_walksEndingAt_48 rfl (fun c9 => ?_) (fun c9 => ?_)
      · have h := (And.left h) c9
        refine zz_lload K 2 dX4_walksEndingAt_75 rfl ?_
        exact hret _ _ h _ _ dX4_walksEndingAt_77
      · have h := (And.right h) c9
        refine zz_lload K 2 dX4_walksEndingAt_51 rfl ?_
        refine zz_aload_n K 0 dX4_walksEndingAt_53 rfl rfl ?_
        refine zg4_5_0 K zin_X4_walksEndingAt_X4 zlk_X4_walksEndingAt_1 dX4_walksEndingAt_54 ?_
        refine zz_iload_n K 1 dX4_walksEndingAt_57 rfl rfl ?_
        refine zz_bipush K dX4_walksEndingAt_58 zcCb_24 ?_
        refine zz_imul K dX4_walksEndingAt_60 ?_
        refine zz_iload K 3 dX4_walksEndingAt_61 rfl ?_
        refine zz_iadd K dX4_walksEndingAt_63 ?_
        obtain ⟨hin, h⟩ := h
        refine zz_iaload K 0 (wC_at_24 ad cy σ) rfl hin dX4_walksEndingAt_64 ?_
        refine zz_i2l K dX4_walksEndingAt_65 ?_
        refine zz_ladd K dX4_walksEndingAt_66 ?_
        refine zz_nml (fun x10 ex10 => ?_)
        have h := h x10 ex10
        refine zz_lstore K [(4, .long x10), (0, .ref (ad 4)), (3, .int v3), (6, .int v6)] dX4_walksEndingAt_67 (by decide) rfl ?_
        refine zz_iinc K 3 [(6, .int (v6 + (1 : Int32))), (4, .long x10), (0, .ref (ad 4)), (3, .int v3)] dX4_walksEndingAt_69 zcCi_1 rfl (by decide) rfl ?_
        refine zz_goto K 44 dX4_walksEndingAt_72 rfl ?_
        refine zz_sub [2, 3, 1, 0] [(0, .ref (ad 4)), (3, .int v3), (4, .long x10), (6, .int (v6 + (1 : Int32)))] rfl ?_
        exact hB44 x10 (v6 + (1 : Int32)) h
  exact key _ v4 v6 (Nat.lt_succ_self _) h0
set_option maxHeartbeats 4000000 in
set_option maxRecDepth 100000 in
theorem zu4_walksEndingAt_21 {p : Program} {l : Launch} {e : Env} {s : State} {m : MethodId} {args : Array Value} {below : List Frame} {meth : Method} {c : Code} {Q : State → Prop} {D : va_G} {A : Nat → Prop} {ad : Nat → Nat} {cy : Nat → ClassId} {v2 : Int32} {v3 : Int32} {v4 : Int32} {σ : zz_St} (K : zz_K p s m args c cX4_walksEndingAt 7 RX4 wsX4_walksEndingAt D (tysC cy) A (wC ad cy) nwC) {Qp : Int64 → zz_St → Prop} (hret : ∀ (r : Int64) (σ2 : zz_St), Qp r σ2 → ∀ (pc : Nat) (lv : List (Nat × Value)), decode cX4_walksEndingAt pc = .ok (.lreturn, 1) → zz_G p l e zrm4_walksEndingAt s m args below meth c Q D A (wC ad cy) 7 pc lv [.long r] σ2) (h : zq4_walksEndingAt_21 v2 v3 v4 σ Qp) : zz_G p l e zrm4_walksEndingAt s m args below meth c Q D A (wC ad cy) 7 21 [(0, .ref (ad 4)), (1, .ref (ad 1)), (2, .int v2), (3, .int v3), (4, .int v4)] [] σ := by
  unfold zq4_walksEndingAt_21 at h
  obtain ⟨I21, M21, h0, hs⟩ := h
  have key : ∀ (nq : Nat) (v4 : Int32) (σ : zz_St), M21 v4 σ < nq → I21 v4 σ → zz_G p l e zrm4_walksEndingAt s m args below meth c Q D A (wC ad cy) 7 21 [(0, .ref (ad 4)), (1, .ref (ad 1)), (2, .int v2), (3, .int v3), (4, .int v4)] [] σ := by
    intro nq
    induction nq with
    | zero => intro v4 σ hlt; exact absurd hlt (Nat.not_lt_zero _)
    | succ nq ih =>
      intro v4 σ hlt hI
      have h := hs v4 σ hI
      have hB21 : ∀ (v4' : Int32) (σ' : zz_St), (fun v4' σ' => I21 v4' σ' ∧ M21 v4' σ' < M21 v4 σ) v4' σ' → zz_G p l e zrm4_walksEndingAt s m args below meth c Q D A (wC ad cy) 7 21 [(0, .ref (ad 4)), (1, .ref (ad 1)), (2, .int v2), (3, .int v3), (4, .int v4')] [] σ' := fun v4' σ' hz => ih v4' σ' (Nat.lt_of_lt_of_le hz.2 (Nat.le_of_lt_succ hlt)) hz.1
      refine zz_iload K 4 dX4_walksEndingAt_21 rfl ?_
      refine zz_iload_n K 2 dX4_walksEndingAt_23 rfl rfl ?_
      refine zz_icmp_ge K 38 dX4_walksEndingAt_24 rfl (fun c11 => ?_) (fun c11 => ?_)
      · have h := (And.left h) c11
        refine zz_lconst K (v := (0 : Int64)) dX4_walksEndingAt_38 rfl ?_
        refine zz_lstore K [(4, .long (0 : Int64)), (0, .ref (ad 4)), (1, .ref (ad 1)), (2, .int v2), (3, .int v3)] dX4_walksEndingAt_39 (by decide) rfl ?_
        refine zz_iconst K dX4_walksEndingAt_41 zcCi_0 ?_
        refine zz_istore K [(6, .int (0 : Int32)), (4, .long (0 : Int64)), (0, .ref (ad 4)), (1, .ref (ad 1)), (2, .int v2), (3, .int v3)] dX4_walksEndingAt_42 (by decide) rfl ?_
        refine zz_sub [2, 5, 1, 0] [(0, .ref (ad 4)), (3, .int v3), (4, .long (0 : Int64)), (6, .int (0 : Int32))] rfl ?_
        exact zu4_walksEndingAt_44 K hret h
      · have h := (And.right h) c11
        refine zz_aload_n K 0 dX4_walksEndingAt_27 rfl rfl ?_
        refine zz_aload_n K 1 dX4_walksEndingAt_28 rfl rfl ?_
        refine zz_callVv K zz_nwC [.ref (ad 1)] (zc4_spread l D ad cy  σ _  h) gX4_walksEndingAt_X4_spread rfl ⟨rfl, rfl⟩ zdsC_yX4_spread_v ⟨Nat.le_of_ble_eq_true rfl, Nat.le_of_ble_eq_true rfl⟩ (wC_at_4 ad cy σ) rfl rfl rfl rfl (Nat.le_of_ble_eq_true rfl) dX4_walksEndingAt_29 (fun g12 h => ?_)
        refine zz_iinc K 4 [(4, .int (v4 + (1 : Int32))), (0, .ref (ad 4)), (1, .ref (ad 1)), (2, .int v2), (3, .int v3)] dX4_walksEndingAt_32 zcCi_1 rfl (by decide) rfl ?_
        refine zz_goto K 21 dX4_walksEndingAt_35 rfl ?_
        refine zz_sub [1, 2, 3, 4, 0] [(0, .ref (ad 4)), (1, .ref (ad 1)), (2, .int v2), (3, .int v3), (4, .int (v4 + (1 : Int32)))] rfl ?_
        exact hB21 (v4 + (1 : Int32)) g12 h
  exact key _ v4 σ (Nat.lt_succ_self _) h0
set_option maxHeartbeats 4000000 in
set_option maxRecDepth 100000 in
theorem zu4_walksEndingAt_0 {p : Program} {l : Launch} {e : Env} {s : State} {m : MethodId} {args : Array Value} {below : List Frame} {meth : Method} {c : Code} {Q : State → Prop} {D : va_G} {A : Nat → Prop} {ad : Nat → Nat} {cy : Nat → ClassId} {v2 : Int32} {v3 : Int32} {σ : zz_St} (K : zz_K p s m args c cX4_walksEndingAt 7 RX4 wsX4_walksEndingAt D (tysC cy) A (wC ad cy) nwC) {Qp : Int64 → zz_St → Prop} (hret : ∀ (r : Int64) (σ2 : zz_St), Qp r σ2 → ∀ (pc : Nat) (lv : List (Nat × Value)), decode cX4_walksEndingAt pc = .ok (.lreturn, 1) → zz_G p l e zrm4_walksEndingAt s m args below meth c Q D A (wC ad cy) 7 pc lv [.long r] σ2) (h : zq4_walksEndingAt v2 v3 σ Qp) : zz_G p l e zrm4_walksEndingAt s m args below meth c Q D A (wC ad cy) 7 0 [(0, .ref (ad 4)), (1, .ref (ad 1)), (2, .int v2), (3, .int v3)] [] σ := by
  unfold zq4_walksEndingAt at h
  refine zz_aload_n K 0 dX4_walksEndingAt_0 rfl rfl ?_
  refine zg4_5_0 K zin_X4_walksEndingAt_X4 zlk_X4_walksEndingAt_1 dX4_walksEndingAt_1 ?_
  refine zz_iconst K dX4_walksEndingAt_4 zcCi_0 ?_
  refine zz_fill K 0 (fun z => zz_A σ 24 z) (wC_at_24 ad cy σ) (wC_set_24 ad cy σ) rfl (by decide) gX4_walksEndingAt_J7_fill_53178 (Nat.le_of_ble_eq_true rfl) (Nat.le_of_ble_eq_true rfl) (Nat.le_of_ble_eq_true rfl) dX4_walksEndingAt_5 (fun f13 e14 => ?_)
  have h := h f13 e14
  refine zz_nms (fun g15 eg15 => ?_)
  have h := h g15 eg15
  refine zz_aload_n K 0 dX4_walksEndingAt_8 rfl rfl ?_
  refine zg4_5_0 K zin_X4_walksEndingAt_X4 zlk_X4_walksEndingAt_1 dX4_walksEndingAt_9 ?_
  refine zz_aload_n K 1 dX4_walksEndingAt_12 rfl rfl ?_
  refine zg6_7_0 K zin_X4_walksEndingAt_X6 zlk_X4_walksEndingAt_2 dX4_walksEndingAt_13 ?_
  refine zz_iconst K dX4_walksEndingAt_16 zcCi_1 ?_
  obtain ⟨hin, h⟩ := h
  refine zz_iastore K 0 (σ2 := zz_A g15 24 (upd (g15.2.1 24) (g15.1 8).toNatClampNeg (1 : Int32))) (wC_at_24 ad cy g15) (wC_set_24 ad cy g15 _) rfl hin dX4_walksEndingAt_17 ?_
  refine zz_nms (fun g16 eg16 => ?_)
  have h := h g16 eg16
  refine zz_iconst K dX4_walksEndingAt_18 zcCi_0 ?_
  refine zz_istore K [(4, .int (0 : Int32)), (0, .ref (ad 4)), (1, .ref (ad 1)), (2, .int v2), (3, .int v3)] dX4_walksEndingAt_19 (by decide) rfl ?_
  refine zz_sub [1, 2, 3, 4, 0] [(0, .ref (ad 4)), (1, .ref (ad 1)), (2, .int v2), (3, .int v3), (4, .int (0 : Int32))] rfl ?_
  exact zu4_walksEndingAt_21 K hret h
set_option maxRecDepth 100000 in
theorem zc4_walksEndingAt (l : Launch) (D : va_G) (ad : Nat → Nat) (cy : Nat → ClassId) (v2 : Int32) (v3 : Int32) (σ : zz_St) (Qp : Int64 → zz_St → Prop) (h : zq4_walksEndingAt v2 v3 σ Qp) : zz_Ml l yX4_walksEndingAt wsX4_walksEndingAt zrm4_walksEndingAt D (tysC cy) (wC ad cy) nwC [.ref (ad 4), .ref (ad 1), .int v2, .int v3] σ Qp :=
  zz_Ml.of zz_nwC (wC_ad ad cy) (by decide +kernel) rfl ⟨rfl, rfl⟩ (Nat.le_of_ble_eq_true rfl) (fun p e s m args below meth c A QW K hret => zu4_walksEndingAt_0 K  hret h)
theorem zin_X6_copyFrom_X6 : ∀ w ∈ wsX60, w ∈ wsX6_copyFrom := fun w h => List.mem_cons_of_mem _ (List.mem_append_right _ h)
theorem zlk_X6_copyFrom_1 : Cond.fieldLink RX6 18 "SolidsRolled$World" "tiles" "[I" ∈ wsX6_copyFrom := List.mem_of_getElem? (i := 1) rfl
theorem zlk_X6_copyFrom_2 : Cond.methodLink RX6 47 arraycopyName ∈ wsX6_copyFrom := List.mem_of_getElem? (i := 2) rfl
theorem zlk_X6_copyFrom_3 : Cond.native arraycopyName ∈ wsX6_copyFrom := List.mem_of_getElem? (i := 3) rfl
theorem zlk_X6_copyFrom_4 : Cond.static arraycopyName ∈ wsX6_copyFrom := List.mem_of_getElem? (i := 4) rfl
theorem zlk_X6_copyFrom_5 : Cond.initialized "java/lang/System" ∈ wsX6_copyFrom := List.mem_of_getElem? (i := 5) rfl
theorem zlk_X6_copyFrom_6 : Cond.fieldLink RX6 22 "SolidsRolled$World" "prints" "[I" ∈ wsX6_copyFrom := List.mem_of_getElem? (i := 6) rfl
theorem zlk_X6_copyFrom_7 : Cond.fieldLink RX6 31 "SolidsRolled$World" "rows" "I" ∈ wsX6_copyFrom := List.mem_of_getElem? (i := 7) rfl
theorem zlk_X6_copyFrom_8 : Cond.fieldLink RX6 35 "SolidsRolled$World" "columns" "I" ∈ wsX6_copyFrom := List.mem_of_getElem? (i := 8) rfl
theorem zlk_X6_copyFrom_9 : Cond.fieldLink RX6 38 "SolidsRolled$World" "kind" "I" ∈ wsX6_copyFrom := List.mem_of_getElem? (i := 9) rfl
theorem zlk_X6_copyFrom_10 : Cond.fieldLink RX6 41 "SolidsRolled$World" "state" "I" ∈ wsX6_copyFrom := List.mem_of_getElem? (i := 10) rfl
theorem zlk_X6_copyFrom_11 : Cond.fieldLink RX6 44 "SolidsRolled$World" "ink" "I" ∈ wsX6_copyFrom := List.mem_of_getElem? (i := 11) rfl
abbrev zrm6_copyFrom : Room := { frames := 1, cells := 0, slots := 0, locals := 40 }
set_option maxHeartbeats 4000000 in
set_option maxRecDepth 100000 in
theorem zu6_copyFrom_0 {p : Program} {l : Launch} {e : Env} {s : State} {m : MethodId} {args : Array Value} {below : List Frame} {meth : Method} {c : Code} {Q : State → Prop} {D : va_G} {A : Nat → Prop} {ad : Nat → Nat} {cy : Nat → ClassId} {v1 : Nat} {w : Nat} {σ : zz_St} (K : zz_K p s m args c cX6_copyFrom 2 RX6 wsX6_copyFrom D (tysC cy) A (wC ad cy) nwC) {Qp : zz_St → Prop} (hv1 : v1 < 2) (hw : w < 2) (hret : ∀ (σ2 : zz_St), Qp σ2 → ∀ (pc : Nat) (lv : List (Nat × Value)), decode cX6_copyFrom pc = .ok (.return_, 1) → zz_G p l e zrm6_copyFrom s m args below meth c Q D A (wC ad cy) 2 pc lv [] σ2) (h : zq6_copyFrom v1 w σ Qp) : zz_G p l e zrm6_copyFrom s m args below meth c Q D A (wC ad cy) 2 0 [(0, .ref (ad (1 + w))), (1, .ref (ad (1 + v1)))] [] σ := by
  unfold zq6_copyFrom at h
  refine zz_aload_n K 1 dX6_copyFrom_0 rfl rfl ?_
  refine zg6_2_ K hv1 zin_X6_copyFrom_X6 zlk_X6_copyFrom_1 dX6_copyFrom_1 ?_
  refine zz_iconst K dX6_copyFrom_4 zcCi_0 ?_
  refine zz_aload_n K 0 dX6_copyFrom_5 rfl rfl ?_
  refine zg6_2_ K hw zin_X6_copyFrom_X6 zlk_X6_copyFrom_1 dX6_copyFrom_6 ?_
  refine zz_iconst K dX6_copyFrom_9 zcCi_0 ?_
  refine zz_bipush K dX6_copyFrom_10 zcCb_36 ?_
  obtain ⟨q1, q2, q3, q4, q5, h⟩ := h
  refine zz_copy K (σ2 := zz_A σ (14 + w) (va_cpy ((σ).2.1 (14 + v1)) ((σ).2.1 (14 + w)) (0 : Int32).toNatClampNeg (0 : Int32).toNatClampNeg (36 : Int32).toNatClampNeg)) 0 0 zlk_X6_copyFrom_2 zlk_X6_copyFrom_3 zlk_X6_copyFrom_4 zlk_X6_copyFrom_5 (wC_at_14_ ad cy σ _ hv1) (wC_at_14_ ad cy σ _ hw) (wC_set_14_ ad cy σ _ _ hw) rfl rfl q1 q2 q3 q4 q5 (Nat.le_of_ble_eq_true rfl) (Nat.le_of_ble_eq_true rfl) dX6_copyFrom_12 ?_
  refine zz_nms (fun g8 eg8 => ?_)
  have h := h g8 eg8
  refine zz_aload_n K 1 dX6_copyFrom_15 rfl rfl ?_
  refine zg6_3_ K hv1 zin_X6_copyFrom_X6 zlk_X6_copyFrom_6 dX6_copyFrom_16 ?_
  refine zz_iconst K dX6_copyFrom_19 zcCi_0 ?_
  refine zz_aload_n K 0 dX6_copyFrom_20 rfl rfl ?_
  refine zg6_3_ K hw zin_X6_copyFrom_X6 zlk_X6_copyFrom_6 dX6_copyFrom_21 ?_
  refine zz_iconst K dX6_copyFrom_24 zcCi_0 ?_
  refine zz_bipush K dX6_copyFrom_25 zcCb_36 ?_
  obtain ⟨q1, q2, q3, q4, q5, h⟩ := h
  refine zz_copy K (σ2 := zz_A g8 (16 + w) (va_cpy (g8.2.1 (16 + v1)) (g8.2.1 (16 + w)) (0 : Int32).toNatClampNeg (0 : Int32).toNatClampNeg (36 : Int32).toNatClampNeg)) 0 0 zlk_X6_copyFrom_2 zlk_X6_copyFrom_3 zlk_X6_copyFrom_4 zlk_X6_copyFrom_5 (wC_at_16_ ad cy g8 _ hv1) (wC_at_16_ ad cy g8 _ hw) (wC_set_16_ ad cy g8 _ _ hw) rfl rfl q1 q2 q3 q4 q5 (Nat.le_of_ble_eq_true rfl) (Nat.le_of_ble_eq_true rfl) dX6_copyFrom_27 ?_
  refine zz_nms (fun g9 eg9 => ?_)
  have h := h g9 eg9
  refine zz_aload_n K 0 dX6_copyFrom_30 rfl rfl ?_
  refine zz_aload_n K 1 dX6_copyFrom_31 rfl rfl ?_
  refine zg6_4_ K hv1 zin_X6_copyFrom_X6 zlk_X6_copyFrom_7 dX6_copyFrom_32 ?_
  refine zp6_4_ K hw zin_X6_copyFrom_X6 zlk_X6_copyFrom_7 dX6_copyFrom_35 ?_
  refine zz_nms (fun g10 eg10 => ?_)
  have h := h g10 eg10
  refine zz_aload_n K 0 dX6_copyFrom_38 rfl rfl ?_
  refine zz_aload_n K 1 dX6_copyFrom_39 rfl rfl ?_
  refine zg6_5_ K hv1 zin_X6_copyFrom_X6 zlk_X6_copyFrom_8 dX6_copyFrom_40 ?_
  refine zp6_5_ K hw zin_X6_copyFrom_X6 zlk_X6_copyFrom_8 dX6_copyFrom_43 ?_
  refine zz_nms (fun g11 eg11 => ?_)
  have h := h g11 eg11
  refine zz_aload_n K 0 dX6_copyFrom_46 rfl rfl ?_
  refine zz_aload_n K 1 dX6_copyFrom_47 rfl rfl ?_
  refine zg6_6_ K hv1 zin_X6_copyFrom_X6 zlk_X6_copyFrom_9 dX6_copyFrom_48 ?_
  refine zp6_6_ K hw zin_X6_copyFrom_X6 zlk_X6_copyFrom_9 dX6_copyFrom_51 ?_
  refine zz_nms (fun g12 eg12 => ?_)
  have h := h g12 eg12
  refine zz_aload_n K 0 dX6_copyFrom_54 rfl rfl ?_
  refine zz_aload_n K 1 dX6_copyFrom_55 rfl rfl ?_
  refine zg6_7_ K hv1 zin_X6_copyFrom_X6 zlk_X6_copyFrom_10 dX6_copyFrom_56 ?_
  refine zp6_7_ K hw zin_X6_copyFrom_X6 zlk_X6_copyFrom_10 dX6_copyFrom_59 ?_
  refine zz_nms (fun g13 eg13 => ?_)
  have h := h g13 eg13
  refine zz_aload_n K 0 dX6_copyFrom_62 rfl rfl ?_
  refine zz_aload_n K 1 dX6_copyFrom_63 rfl rfl ?_
  refine zg6_8_ K hv1 zin_X6_copyFrom_X6 zlk_X6_copyFrom_11 dX6_copyFrom_64 ?_
  refine zp6_8_ K hw zin_X6_copyFrom_X6 zlk_X6_copyFrom_11 dX6_copyFrom_67 ?_
  refine zz_nms (fun g14 eg14 => ?_)
  have h := h g14 eg14
  exact hret _ h _ _ dX6_copyFrom_70
set_option maxRecDepth 100000 in
theorem zc6_copyFrom (l : Launch) (D : va_G) (ad : Nat → Nat) (cy : Nat → ClassId) (v1 : Nat) (w : Nat) (σ : zz_St) (Qp : zz_St → Prop) (hv1 : v1 < 2) (hw : w < 2) (h : zq6_copyFrom v1 w σ Qp) : zz_Mv l yX6_copyFrom wsX6_copyFrom zrm6_copyFrom D (tysC cy) (wC ad cy) nwC [.ref (ad (1 + w)), .ref (ad (1 + v1))] σ Qp :=
  zz_Mv.of zz_nwC (wC_ad ad cy) (by decide +kernel) rfl ⟨rfl, rfl⟩ (Nat.le_of_ble_eq_true rfl) (fun p e s m args below meth c A QW K hret => zu6_copyFrom_0 K hv1 hw hret h)
theorem zin_X6_clearPrints_X6 : ∀ w ∈ wsX60, w ∈ wsX6_clearPrints := fun w h => List.mem_cons_of_mem _ (List.mem_append_right _ h)
theorem zlk_X6_clearPrints_1 : Cond.fieldLink RX6 22 "SolidsRolled$World" "prints" "[I" ∈ wsX6_clearPrints := List.mem_of_getElem? (i := 1) rfl
abbrev zrm6_clearPrints : Room := { frames := 1, cells := 0, slots := 0, locals := 23 }
set_option maxHeartbeats 4000000 in
set_option maxRecDepth 100000 in
theorem zu6_clearPrints_0 {p : Program} {l : Launch} {e : Env} {s : State} {m : MethodId} {args : Array Value} {below : List Frame} {meth : Method} {c : Code} {Q : State → Prop} {D : va_G} {A : Nat → Prop} {ad : Nat → Nat} {cy : Nat → ClassId}  {σ : zz_St} (K : zz_K p s m args c cX6_clearPrints 1 RX6 wsX6_clearPrints D (tysC cy) A (wC ad cy) nwC) {Qp : zz_St → Prop} (hret : ∀ (σ2 : zz_St), Qp σ2 → ∀ (pc : Nat) (lv : List (Nat × Value)), decode cX6_clearPrints pc = .ok (.return_, 1) → zz_G p l e zrm6_clearPrints s m args below meth c Q D A (wC ad cy) 1 pc lv [] σ2) (h : zq6_clearPrints σ Qp) : zz_G p l e zrm6_clearPrints s m args below meth c Q D A (wC ad cy) 1 0 [(0, .ref (ad 1))] [] σ := by
  unfold zq6_clearPrints at h
  refine zz_aload_n K 0 dX6_clearPrints_0 rfl rfl ?_
  refine zg6_3_0 K zin_X6_clearPrints_X6 zlk_X6_clearPrints_1 dX6_clearPrints_1 ?_
  refine zz_iconst K dX6_clearPrints_4 zcCi_m1 ?_
  refine zz_fill K 0 (fun z => zz_A σ 16 z) (wC_at_16 ad cy σ) (wC_set_16 ad cy σ) rfl (by decide) gX6_clearPrints_J7_fill_53178 (Nat.le_of_ble_eq_true rfl) (Nat.le_of_ble_eq_true rfl) (Nat.le_of_ble_eq_true rfl) dX6_clearPrints_5 (fun f4 e5 => ?_)
  have h := h f4 e5
  refine zz_nms (fun g6 eg6 => ?_)
  have h := h g6 eg6
  exact hret _ h _ _ dX6_clearPrints_8
set_option maxRecDepth 100000 in
theorem zc6_clearPrints (l : Launch) (D : va_G) (ad : Nat → Nat) (cy : Nat → ClassId)  (σ : zz_St) (Qp : zz_St → Prop) (h : zq6_clearPrints σ Qp) : zz_Mv l yX6_clearPrints wsX6_clearPrints zrm6_clearPrints D (tysC cy) (wC ad cy) nwC [.ref (ad 1)] σ Qp :=
  zz_Mv.of zz_nwC (wC_ad ad cy) (by decide +kernel) rfl ⟨rfl, rfl⟩ (Nat.le_of_ble_eq_true rfl) (fun p e s m args below meth c A QW K hret => zu6_clearPrints_0 K  hret h)
theorem zlk_X6_mayBePlaced_2 : Cond.initialized RX7 ∈ wsX6_mayBePlaced := List.mem_of_getElem? (i := 2) rfl
theorem zlk_X6_mayBePlaced_1 : Cond.static yX7_isTetra ∈ wsX6_mayBePlaced := List.mem_of_getElem? (i := 1) rfl
abbrev zrm6_mayBePlaced : Room := { frames := 1, cells := 0, slots := 0, locals := 22 }
set_option maxHeartbeats 4000000 in
set_option maxRecDepth 100000 in
theorem zu6_mayBePlaced_27 {p : Program} {l : Launch} {e : Env} {s : State} {m : MethodId} {args : Array Value} {below : List Frame} {meth : Method} {c : Code} {Q : State → Prop} {D : va_G} {A : Nat → Prop} {ad : Nat → Nat} {cy : Nat → ClassId} {s0 : Int32} {s1 : Int32} {σ : zz_St} (K : zz_K p s m args c cX6_mayBePlaced 4 RX6 wsX6_mayBePlaced D (tysC cy) A (wC ad cy) nwC) {Qp : Int32 → Prop} (hret : ∀ (r : Int32), narrow .boolean (.int r) = .int r → Qp r → ∀ (pc : Nat) (lv : List (Nat × Value)), decode cX6_mayBePlaced pc = .ok (.ireturn, 1) → zz_G p l e zrm6_mayBePlaced s m args below meth c Q D A (wC ad cy) 4 pc lv [.int r] σ) (h : zq6_mayBePlaced_27 s0 s1 σ Qp) : zz_G p l e zrm6_mayBePlaced s m args below meth c Q D A (wC ad cy) 4 27 [] [.int s0, .int s1, .ref (ad 1)] σ := by
  unfold zq6_mayBePlaced_27 at h
  refine zz_callVi1 K zz_nwC [.int s1, .int s0] (zc6_bears l D ad cy s1 s0 σ _  h) gX6_mayBePlaced_X6_bears rfl ⟨rfl, rfl⟩ zdsC_yX6_bears_v ⟨Nat.le_of_ble_eq_true rfl, Nat.le_of_ble_eq_true rfl⟩ (wC_at_1 ad cy σ) rfl rfl rfl rfl (Nat.le_of_ble_eq_true rfl) dX6_mayBePlaced_27 (fun r5 h => ?_)
  obtain ⟨hnb, h⟩ := h
  exact hret _ (zz_nb hnb) h _ _ dX6_mayBePlaced_30
set_option maxHeartbeats 4000000 in
set_option maxRecDepth 100000 in
theorem zu6_mayBePlaced_14 {p : Program} {l : Launch} {e : Env} {s : State} {m : MethodId} {args : Array Value} {below : List Frame} {meth : Method} {c : Code} {Q : State → Prop} {D : va_G} {A : Nat → Prop} {ad : Nat → Nat} {cy : Nat → ClassId} {v1 : Int32} {s0 : Int32} {σ : zz_St} (K : zz_K p s m args c cX6_mayBePlaced 4 RX6 wsX6_mayBePlaced D (tysC cy) A (wC ad cy) nwC) {Qp : Int32 → Prop} (hret : ∀ (r : Int32), narrow .boolean (.int r) = .int r → Qp r → ∀ (pc : Nat) (lv : List (Nat × Value)), decode cX6_mayBePlaced pc = .ok (.ireturn, 1) → zz_G p l e zrm6_mayBePlaced s m args below meth c Q D A (wC ad cy) 4 pc lv [.int r] σ) (h : zq6_mayBePlaced_14 v1 s0 σ Qp) : zz_G p l e zrm6_mayBePlaced s m args below meth c Q D A (wC ad cy) 4 14 [(0, .ref (ad 1)), (1, .int v1)] [.int s0] σ := by
  unfold zq6_mayBePlaced_14 at h
  refine zz_istore_n K [(3, .int s0), (0, .ref (ad 1)), (1, .int v1)] dX6_mayBePlaced_14 rfl (by decide) rfl ?_
  refine zz_aload_n K 1 dX6_mayBePlaced_15 rfl rfl ?_
  refine zz_iload_n K 0 dX6_mayBePlaced_16 rfl rfl ?_
  refine zz_iload_n K 2 dX6_mayBePlaced_17 rfl rfl ?_
  refine zz_iconst K dX6_mayBePlaced_18 zcCi_1 ?_
  refine zz_icmp_ne K 26 dX6_mayBePlaced_19 rfl (fun c6 => ?_) (fun c6 => ?_)
  · have h := (And.left h) c6
    refine zz_iconst K dX6_mayBePlaced_26 zcCi_0 ?_
    refine zz_sub [] [] rfl ?_
    exact zu6_mayBePlaced_27 K hret h
  · have h := (And.right h) c6
    refine zz_iconst K dX6_mayBePlaced_22 zcCi_1 ?_
    refine zz_goto K 27 dX6_mayBePlaced_23 rfl ?_
    refine zz_sub [] [] rfl ?_
    exact zu6_mayBePlaced_27 K hret h
set_option maxHeartbeats 4000000 in
set_option maxRecDepth 100000 in
theorem zu6_mayBePlaced_0 {p : Program} {l : Launch} {e : Env} {s : State} {m : MethodId} {args : Array Value} {below : List Frame} {meth : Method} {c : Code} {Q : State → Prop} {D : va_G} {A : Nat → Prop} {ad : Nat → Nat} {cy : Nat → ClassId} {v1 : Int32} {v2 : Int32} {σ : zz_St} (K : zz_K p s m args c cX6_mayBePlaced 4 RX6 wsX6_mayBePlaced D (tysC cy) A (wC ad cy) nwC) {Qp : Int32 → Prop} (hret : ∀ (r : Int32), narrow .boolean (.int r) = .int r → Qp r → ∀ (pc : Nat) (lv : List (Nat × Value)), decode cX6_mayBePlaced pc = .ok (.ireturn, 1) → zz_G p l e zrm6_mayBePlaced s m args below meth c Q D A (wC ad cy) 4 pc lv [.int r] σ) (h : zq6_mayBePlaced v1 v2 σ Qp) : zz_G p l e zrm6_mayBePlaced s m args below meth c Q D A (wC ad cy) 4 0 [(0, .ref (ad 1)), (1, .int v1), (2, .int v2)] [] σ := by
  unfold zq6_mayBePlaced at h
  refine zz_iload_n K 1 dX6_mayBePlaced_0 rfl rfl ?_
  refine zz_callNi1 K zz_nwC [.int v1] (zc7_isTetra l D ad cy v1 σ _  h) ggX6_mayBePlaced_X7_isTetra rfl ⟨rfl, rfl⟩ zdsC_yX7_isTetra_s ⟨Nat.le_of_ble_eq_true rfl, Nat.le_of_ble_eq_true rfl⟩ (List.mem_of_getElem? (i := 0) rfl) zlk_X6_mayBePlaced_2 zlk_X6_mayBePlaced_1 rfl rfl (Nat.le_of_ble_eq_true rfl) dX6_mayBePlaced_1 (fun r7 h => ?_)
  refine zz_if_eq K 13 dX6_mayBePlaced_4 rfl (fun c8 => ?_) (fun c8 => ?_)
  · have h := (And.left h) c8
    refine zz_iload_n K 2 dX6_mayBePlaced_13 rfl rfl ?_
    refine zz_sub [0, 1] [(0, .ref (ad 1)), (1, .int v1)] rfl ?_
    exact zu6_mayBePlaced_14 K hret h
  · have h := (And.right h) c8
    refine zz_iload_n K 2 dX6_mayBePlaced_7 rfl rfl ?_
    refine zz_iconst K dX6_mayBePlaced_8 zcCi_2 ?_
    refine zz_idiv K (by decide : ¬ (2 : Int32) = 0) dX6_mayBePlaced_9 ?_
    refine zz_goto K 14 dX6_mayBePlaced_10 rfl ?_
    refine zz_sub [0, 1] [(0, .ref (ad 1)), (1, .int v1)] rfl ?_
    exact zu6_mayBePlaced_14 K hret h
set_option maxRecDepth 100000 in
theorem zc6_mayBePlaced (l : Launch) (D : va_G) (ad : Nat → Nat) (cy : Nat → ClassId) (v1 : Int32) (v2 : Int32) (σ : zz_St) (Qp : Int32 → Prop) (h : zq6_mayBePlaced v1 v2 σ Qp) : zz_Mi l yX6_mayBePlaced wsX6_mayBePlaced zrm6_mayBePlaced D (tysC cy) (wC ad cy) nwC [.ref (ad 1), .int v1, .int v2] σ (fun r σ2 => σ2 = σ ∧ Qp r) :=
  zz_Mi.of zz_nwC (wC_ad ad cy) (by decide +kernel) rfl ⟨rfl, rfl⟩ (Nat.le_of_ble_eq_true rfl) (fun p e s m args below meth c A QW K hret => zu6_mayBePlaced_0 K  (fun r hn hq pc lv hd => hret r σ hn ⟨rfl, hq⟩ pc lv hd) h)
theorem zin_X6_setSolid_X6 : ∀ w ∈ wsX60, w ∈ wsX6_setSolid := fun w h => List.mem_cons_of_mem _ (List.mem_append_right _ h)
theorem zlk_X6_setSolid_1 : Cond.fieldLink RX6 38 "SolidsRolled$World" "kind" "I" ∈ wsX6_setSolid := List.mem_of_getElem? (i := 1) rfl
theorem zlk_X6_setSolid_2 : Cond.fieldLink RX6 41 "SolidsRolled$World" "state" "I" ∈ wsX6_setSolid := List.mem_of_getElem? (i := 2) rfl
abbrev zrm6_setSolid : Room := { frames := 0, cells := 0, slots := 0, locals := 0 }
set_option maxHeartbeats 4000000 in
set_option maxRecDepth 100000 in
theorem zu6_setSolid_0 {p : Program} {l : Launch} {e : Env} {s : State} {m : MethodId} {args : Array Value} {below : List Frame} {meth : Method} {c : Code} {Q : State → Prop} {D : va_G} {A : Nat → Prop} {ad : Nat → Nat} {cy : Nat → ClassId} {v1 : Int32} {v2 : Int32} {σ : zz_St} (K : zz_K p s m args c cX6_setSolid 3 RX6 wsX6_setSolid D (tysC cy) A (wC ad cy) nwC) {Qp : zz_St → Prop} (hret : ∀ (σ2 : zz_St), Qp σ2 → ∀ (pc : Nat) (lv : List (Nat × Value)), decode cX6_setSolid pc = .ok (.return_, 1) → zz_G p l e zrm6_setSolid s m args below meth c Q D A (wC ad cy) 3 pc lv [] σ2) (h : zq6_setSolid v1 v2 σ Qp) : zz_G p l e zrm6_setSolid s m args below meth c Q D A (wC ad cy) 3 0 [(0, .ref (ad 1)), (1, .int v1), (2, .int v2)] [] σ := by
  unfold zq6_setSolid at h
  refine zz_aload_n K 0 dX6_setSolid_0 rfl rfl ?_
  refine zz_iload_n K 1 dX6_setSolid_1 rfl rfl ?_
  refine zp6_6_0 K zin_X6_setSolid_X6 zlk_X6_setSolid_1 dX6_setSolid_2 ?_
  refine zz_nms (fun g3 eg3 => ?_)
  have h := h g3 eg3
  refine zz_aload_n K 0 dX6_setSolid_5 rfl rfl ?_
  refine zz_iload_n K 2 dX6_setSolid_6 rfl rfl ?_
  refine zz_bipush K dX6_setSolid_7 zcCb_24 ?_
  refine zz_imul K dX6_setSolid_9 ?_
  refine zp6_7_0 K zin_X6_setSolid_X6 zlk_X6_setSolid_2 dX6_setSolid_10 ?_
  refine zz_nms (fun g4 eg4 => ?_)
  have h := h g4 eg4
  exact hret _ h _ _ dX6_setSolid_13
set_option maxRecDepth 100000 in
theorem zc6_setSolid (l : Launch) (D : va_G) (ad : Nat → Nat) (cy : Nat → ClassId) (v1 : Int32) (v2 : Int32) (σ : zz_St) (Qp : zz_St → Prop) (h : zq6_setSolid v1 v2 σ Qp) : zz_Mv l yX6_setSolid wsX6_setSolid zrm6_setSolid D (tysC cy) (wC ad cy) nwC [.ref (ad 1), .int v1, .int v2] σ Qp :=
  zz_Mv.of zz_nwC (wC_ad ad cy) (by decide +kernel) rfl ⟨rfl, rfl⟩ (Nat.le_of_ble_eq_true rfl) (fun p e s m args below meth c A QW K hret => zu6_setSolid_0 K  hret h)
theorem zin_X6_readBoard_X6 : ∀ w ∈ wsX60, w ∈ wsX6_readBoard := fun w h => List.mem_cons_of_mem _ (List.mem_append_left _ (List.mem_append_right _ h))
theorem zlk_X6_readBoard_1 : Cond.fieldLink RX6 31 "SolidsRolled$World" "rows" "I" ∈ wsX6_readBoard := List.mem_of_getElem? (i := 1) rfl
theorem zin_X6_readBoard_X1 : ∀ w ∈ wsX10, w ∈ wsX6_readBoard := fun w h => List.mem_cons_of_mem _ (List.mem_append_right _ h)
theorem zlk_X6_readBoard_2 : Cond.fieldLink RX6 53 "SolidsRolled$Letters" "size" "I" ∈ wsX6_readBoard := List.mem_of_getElem? (i := 2) rfl
theorem zlk_X6_readBoard_3 : Cond.fieldLink RX6 18 "SolidsRolled$World" "tiles" "[I" ∈ wsX6_readBoard := List.mem_of_getElem? (i := 3) rfl
theorem zlk_X6_readBoard_4 : Cond.fieldLink RX6 35 "SolidsRolled$World" "columns" "I" ∈ wsX6_readBoard := List.mem_of_getElem? (i := 4) rfl
theorem zlk_X6_readBoard_5 : Cond.fieldLink RX6 38 "SolidsRolled$World" "kind" "I" ∈ wsX6_readBoard := List.mem_of_getElem? (i := 5) rfl
theorem zlk_X6_readBoard_6 : Cond.fieldLink RX6 41 "SolidsRolled$World" "state" "I" ∈ wsX6_readBoard := List.mem_of_getElem? (i := 6) rfl
theorem zdsC_yX6_setSolid_v : yX6_setSolid.cls = RX6 ∧ yX6_setSolid.cls ≠ "java/lang/invoke/MethodHandle" ∧ yX6_setSolid.cls ≠ "java/lang/invoke/VarHandle" ∧ (parseMethodDescriptor yX6_setSolid.desc).map (fun d => d.parameters.length) = some 2 := by decide +kernel
theorem zdsC_yX6_mayBePlaced_v : yX6_mayBePlaced.cls = RX6 ∧ yX6_mayBePlaced.cls ≠ "java/lang/invoke/MethodHandle" ∧ yX6_mayBePlaced.cls ≠ "java/lang/invoke/VarHandle" ∧ (parseMethodDescriptor yX6_mayBePlaced.desc).map (fun d => d.parameters.length) = some 2 := by decide +kernel
theorem zdsC_yX6_clearPrints_v : yX6_clearPrints.cls = RX6 ∧ yX6_clearPrints.cls ≠ "java/lang/invoke/MethodHandle" ∧ yX6_clearPrints.cls ≠ "java/lang/invoke/VarHandle" ∧ (parseMethodDescriptor yX6_clearPrints.desc).map (fun d => d.parameters.length) = some 0 := by decide +kernel
abbrev zrm6_readBoard : Room := { frames := 2, cells := 0, slots := 0, locals := 45 }
set_option maxHeartbeats 4000000 in
set_option maxRecDepth 100000 in
theorem zu6_readBoard_59 {p : Program} {l : Launch} {e : Env} {s : State} {m : MethodId} {args : Array Value} {below : List Frame} {meth : Method} {c : Code} {Q : State → Prop} {D : va_G} {A : Nat → Prop} {ad : Nat → Nat} {cy : Nat → ClassId} {v2 : Int32} {v3 : Int32} {σ : zz_St} (K : zz_K p s m args c cX6_readBoard 5 RX6 wsX6_readBoard D (tysC cy) A (wC ad cy) nwC) {Qp : zz_St → Prop} (hret : ∀ (σ2 : zz_St), Qp σ2 → ∀ (pc : Nat) (lv : List (Nat × Value)), decode cX6_readBoard pc = .ok (.return_, 1) → zz_G p l e zrm6_readBoard s m args below meth c Q D A (wC ad cy) 5 pc lv [] σ2) {B9 : Int32 → Int32 → zz_St → Prop} (hB9 : ∀ (v2' : Int32) (v3' : Int32) (σ' : zz_St), B9 v2' v3' σ' → zz_G p l e zrm6_readBoard s m args below meth c Q D A (wC ad cy) 5 9 [(0, .ref (ad 1)), (1, .ref (ad 3)), (2, .int v2'), (3, .int v3')] [] σ') (h : zq6_readBoard_59 v2 v3 σ Qp B9) : zz_G p l e zrm6_readBoard s m args below meth c Q D A (wC ad cy) 5 59 [(0, .ref (ad 1)), (1, .ref (ad 3)), (2, .int v2), (3, .int v3)] [] σ := by
  unfold zq6_readBoard_59 at h
  refine zz_iinc K 3 [(3, .int (v3 + (1 : Int32))), (0, .ref (ad 1)), (1, .ref (ad 3)), (2, .int v2)] dX6_readBoard_59 zcCi_1 rfl (by decide) rfl ?_
  refine zz_goto K 9 dX6_readBoard_62 rfl ?_
  refine zz_sub [1, 2, 3, 0] [(0, .ref (ad 1)), (1, .ref (ad 3)), (2, .int v2), (3, .int (v3 + (1 : Int32)))] rfl ?_
  exact hB9 v2 (v3 + (1 : Int32)) σ h
set_option maxHeartbeats 4000000 in
set_option maxRecDepth 100000 in
theorem zu6_readBoard_83 {p : Program} {l : Launch} {e : Env} {s : State} {m : MethodId} {args : Array Value} {below : List Frame} {meth : Method} {c : Code} {Q : State → Prop} {D : va_G} {A : Nat → Prop} {ad : Nat → Nat} {cy : Nat → ClassId} {s0 : Int32} {σ : zz_St} (K : zz_K p s m args c cX6_readBoard 5 RX6 wsX6_readBoard D (tysC cy) A (wC ad cy) nwC) {Qp : zz_St → Prop} (hret : ∀ (σ2 : zz_St), Qp σ2 → ∀ (pc : Nat) (lv : List (Nat × Value)), decode cX6_readBoard pc = .ok (.return_, 1) → zz_G p l e zrm6_readBoard s m args below meth c Q D A (wC ad cy) 5 pc lv [] σ2) (h : zq6_readBoard_83 s0 σ Qp) : zz_G p l e zrm6_readBoard s m args below meth c Q D A (wC ad cy) 5 83 [(0, .ref (ad 1))] [.int s0, .ref (ad 1)] σ := by
  unfold zq6_readBoard_83 at h
  refine zp6_5_0 K zin_X6_readBoard_X6 zlk_X6_readBoard_4 dX6_readBoard_83 ?_
  refine zz_nms (fun g15 eg15 => ?_)
  have h := h g15 eg15
  refine zz_aload_n K 0 dX6_readBoard_86 rfl rfl ?_
  refine zz_callVv K zz_nwC [] (zc6_clearPrints l D ad cy  g15 _  h) gX6_readBoard_X6_clearPrints rfl ⟨rfl, rfl⟩ zdsC_yX6_clearPrints_v ⟨Nat.le_of_ble_eq_true rfl, Nat.le_of_ble_eq_true rfl⟩ (wC_at_1 ad cy g15) rfl rfl rfl rfl (Nat.le_of_ble_eq_true rfl) dX6_readBoard_87 (fun g16 h => ?_)
  refine zz_aload_n K 0 dX6_readBoard_90 rfl rfl ?_
  refine zz_aload_n K 0 dX6_readBoard_91 rfl rfl ?_
  refine zg6_6_0 K zin_X6_readBoard_X6 zlk_X6_readBoard_5 dX6_readBoard_92 ?_
  refine zz_iconst K dX6_readBoard_95 zcCi_0 ?_
  refine zz_callVi1 K zz_nwC [.int (g16.1 6), .int (0 : Int32)] (zc6_mayBePlaced l D ad cy (g16.1 6) (0 : Int32) g16 _  h) gX6_readBoard_X6_mayBePlaced rfl ⟨rfl, rfl⟩ zdsC_yX6_mayBePlaced_v ⟨Nat.le_of_ble_eq_true rfl, Nat.le_of_ble_eq_true rfl⟩ (wC_at_1 ad cy g16) rfl rfl rfl rfl (Nat.le_of_ble_eq_true rfl) dX6_readBoard_96 (fun r17 h => ?_)
  refine zz_if_eq K 114 dX6_readBoard_99 rfl (fun c18 => ?_) (fun c18 => ?_)
  · have h := (And.left h) c18
    refine zz_aload_n K 0 dX6_readBoard_114 rfl rfl ?_
    refine zz_iconst K dX6_readBoard_115 zcCi_m1 ?_
    refine zp6_7_0 K zin_X6_readBoard_X6 zlk_X6_readBoard_6 dX6_readBoard_116 ?_
    refine zz_nms (fun g19 eg19 => ?_)
    have h := h g19 eg19
    exact hret _ h _ _ dX6_readBoard_119
  · have h := (And.right h) c18
    refine zz_aload_n K 0 dX6_readBoard_102 rfl rfl ?_
    refine zz_aload_n K 0 dX6_readBoard_103 rfl rfl ?_
    refine zg6_6_0 K zin_X6_readBoard_X6 zlk_X6_readBoard_5 dX6_readBoard_104 ?_
    refine zz_iconst K dX6_readBoard_107 zcCi_0 ?_
    refine zz_callVv K zz_nwC [.int (g16.1 6), .int (0 : Int32)] (zc6_setSolid l D ad cy (g16.1 6) (0 : Int32) g16 _  h) gX6_readBoard_X6_setSolid rfl ⟨rfl, rfl⟩ zdsC_yX6_setSolid_v ⟨Nat.le_of_ble_eq_true rfl, Nat.le_of_ble_eq_true rfl⟩ (wC_at_1 ad cy g16) rfl rfl rfl rfl (Nat.le_of_ble_eq_true rfl) dX6_readBoard_108 (fun g20 h => ?_)
    refine zz_goto K 119 dX6_readBoard_111 rfl ?_
    exact hret _ h _ _ dX6_readBoard_119
set_option maxHeartbeats 4000000 in
set_option maxRecDepth 100000 in
theorem zu6_readBoard_9 {p : Program} {l : Launch} {e : Env} {s : State} {m : MethodId} {args : Array Value} {below : List Frame} {meth : Method} {c : Code} {Q : State → Prop} {D : va_G} {A : Nat → Prop} {ad : Nat → Nat} {cy : Nat → ClassId} {v2 : Int32} {v3 : Int32} {σ : zz_St} (K : zz_K p s m args c cX6_readBoard 5 RX6 wsX6_readBoard D (tysC cy) A (wC ad cy) nwC) {Qp : zz_St → Prop} (hret : ∀ (σ2 : zz_St), Qp σ2 → ∀ (pc : Nat) (lv : List (Nat × Value)), decode cX6_readBoard pc = .ok (.return_, 1) → zz_G p l e zrm6_readBoard s m args below meth c Q D A (wC ad cy) 5 pc lv [] σ2) (h : zq6_readBoard_9 v2 v3 σ Qp) : zz_G p l e zrm6_readBoard s m args below meth c Q D A (wC ad cy) 5 9 [(0, .ref (ad 1)), (1, .ref (ad 3)), (2, .int v2), (3, .int v3)] [] σ := by
  unfold zq6_readBoard_9 at h
  obtain ⟨I9, M9, h0, hs⟩ := h
  have key : ∀ (nq : Nat) (v2 : Int32) (v3 : Int32) (σ : zz_St), M9 v2 v3 σ < nq → I9 v2 v3 σ → zz_G p l e zrm6_readBoard s m args below meth c Q D A (wC ad cy) 5 9 [(0, .ref (ad 1)), (1, .ref (ad 3)), (2, .int v2), (3, .int v3)] [] σ := by
    intro nq
    induction nq with
    | zero => intro v2 v3 σ hlt; exact absurd hlt (Nat.not_lt_zero _)
    | succ nq ih =>
      intro v2 v3 σ hlt hI
      have h := hs v2 v3 σ hI
      have hB9 : ∀ (v2' : Int32) (v3' : Int32) (σ' : zz_St), (fun v2' v3' σ' => I9 v2' v3' σ' ∧ M9 v2' v3' σ' < M9 v2 v3 σ) v2' v3' σ' → zz_G p l e zrm6_readBoard s m args below meth c Q D A (wC ad cy) 5 9 [(0, .ref (ad 1)), (1, .ref (ad 3)), (2, .int v2'), (3, .int v3')] [] σ' := fun v2' v3' σ' hz => ih v2' v3' σ' (Nat.lt_of_lt_of_le hz.2 (Nat.le_of_lt_succ hlt)) hz.1
      refine zz_iload_n K 3 dX6_readBoard_9 rfl rfl ?_
      refine zz_aload_n K 1 dX6_readBoard_10 rfl rfl ?_
      refine zg1_1_0 K zin_X6_readBoard_X1 zlk_X6_readBoard_2 dX6_readBoard_11 ?_
      refine zz_icmp_ge K 65 dX6_readBoard_14 rfl (fun c21 => ?_) (fun c21 => ?_)
      · have h := (And.left h) c21
        refine zz_aload_n K 0 dX6_readBoard_65 rfl rfl ?_
        refine zz_aload_n K 0 dX6_readBoard_66 rfl rfl ?_
        refine zg6_4_0 K zin_X6_readBoard_X6 zlk_X6_readBoard_1 dX6_readBoard_67 ?_
        refine zz_if_le K 82 dX6_readBoard_70 rfl (fun c22 => ?_) (fun c22 => ?_)
        · have h := (And.left h) c22
          refine zz_iconst K dX6_readBoard_82 zcCi_0 ?_
          refine zz_sub [0] [(0, .ref (ad 1))] rfl ?_
          exact zu6_readBoard_83 K hret h
        · have h := (And.right h) c22
          refine zz_iload_n K 2 dX6_readBoard_73 rfl rfl ?_
          refine zz_aload_n K 0 dX6_readBoard_74 rfl rfl ?_
          refine zg6_4_0 K zin_X6_readBoard_X6 zlk_X6_readBoard_1 dX6_readBoard_75 ?_
          obtain ⟨hne, h⟩ := h
          refine zz_idiv K hne dX6_readBoard_78 ?_
          refine zz_goto K 83 dX6_readBoard_79 rfl ?_
          refine zz_sub [0] [(0, .ref (ad 1))] rfl ?_
          exact zu6_readBoard_83 K hret h
      · have h := (And.right h) c21
        refine zz_aload_n K 1 dX6_readBoard_17 rfl rfl ?_
        refine zz_iload_n K 3 dX6_readBoard_18 rfl rfl ?_
        refine zz_callVi1 K zz_nwC [.int v3] (zc1_tileAt l D ad cy v3 σ _  h) gX6_readBoard_X1_tileAt rfl ⟨rfl, rfl⟩ zdsC_yX1_tileAt_v ⟨Nat.le_of_ble_eq_true rfl, Nat.le_of_ble_eq_true rfl⟩ (wC_at_3 ad cy σ) rfl rfl rfl rfl (Nat.le_of_ble_eq_true rfl) dX6_readBoard_19 (fun r23 h => ?_)
        refine zz_istore K [(4, .int r23), (0, .ref (ad 1)), (1, .ref (ad 3)), (2, .int v2), (3, .int v3)] dX6_readBoard_22 (by decide) rfl ?_
        refine zz_iload K 0 dX6_readBoard_24 rfl ?_
        refine zz_if_ge K 42 dX6_readBoard_26 rfl (fun c24 => ?_) (fun c24 => ?_)
        · have h := (And.left h) c24
          refine zz_iload_n K 3 dX6_readBoard_42 rfl rfl ?_
          refine zz_bipush K dX6_readBoard_43 zcCb_36 ?_
          refine zz_icmp_ge K 59 dX6_readBoard_45 rfl (fun c25 => ?_) (fun c25 => ?_)
          · have h := (And.left h) c25
            refine zz_sub [1, 2, 3, 4] [(0, .ref (ad 1)), (1, .ref (ad 3)), (2, .int v2), (3, .int v3)] rfl ?_
            exact zu6_readBoard_59 K hret hB9 h
          · have h := (And.right h) c25
            refine zz_aload_n K 1 dX6_readBoard_48 rfl rfl ?_
            refine zg6_2_0 K zin_X6_readBoard_X6 zlk_X6_readBoard_3 dX6_readBoard_49 ?_
            refine zz_iload_n K 3 dX6_readBoard_52 rfl rfl ?_
            refine zz_iload K 0 dX6_readBoard_53 rfl ?_
            obtain ⟨hin, h⟩ := h
            refine zz_iastore K 0 (σ2 := zz_A σ 14 (upd ((σ).2.1 14) v2.toNatClampNeg r23)) (wC_at_14 ad cy σ) (wC_set_14 ad cy σ _) rfl hin dX6_readBoard_55 ?_
            refine zz_nms (fun g26 eg26 => ?_)
            have h := h g26 eg26
            refine zz_iinc K 3 [(2, .int (v2 + (1 : Int32))), (4, .int r23), (0, .ref (ad 1)), (1, .ref (ad 3)), (3, .int v3)] dX6_readBoard_56 zcCi_1 rfl (by decide) rfl ?_
            refine zz_sub [2, 3, 0, 4] [(0, .ref (ad 1)), (1, .ref (ad 3)), (2, .int (v2 + (1 : Int32))), (3, .int v3)] rfl ?_
            exact zu6_readBoard_59 K hret hB9 h
        · have h := (And.right h) c24
          refine zz_aload_n K 1 dX6_readBoard_29 rfl rfl ?_
          refine zz_dup K rfl dX6_readBoard_30 ?_
          refine zg6_4_0 K zin_X6_readBoard_X6 zlk_X6_readBoard_1 dX6_readBoard_31 ?_
          refine zz_iconst K dX6_readBoard_34 zcCi_1 ?_
          refine zz_iadd K dX6_readBoard_35 ?_
          refine zp6_4_0 K zin_X6_readBoard_X6 zlk_X6_readBoard_1 dX6_readBoard_36 ?_
          refine zz_nms (fun g27 eg27 => ?_)
          have h := h g27 eg27
          refine zz_goto K 59 dX6_readBoard_39 rfl ?_
          refine zz_sub [1, 2, 3, 4] [(0, .ref (ad 1)), (1, .ref (ad 3)), (2, .int v2), (3, .int v3)] rfl ?_
          exact zu6_readBoard_59 K hret hB9 h
  exact key _ v2 v3 σ (Nat.lt_succ_self _) h0
set_option maxHeartbeats 4000000 in
set_option maxRecDepth 100000 in
theorem zu6_readBoard_0 {p : Program} {l : Launch} {e : Env} {s : State} {m : MethodId} {args : Array Value} {below : List Frame} {meth : Method} {c : Code} {Q : State → Prop} {D : va_G} {A : Nat → Prop} {ad : Nat → Nat} {cy : Nat → ClassId}  {σ : zz_St} (K : zz_K p s m args c cX6_readBoard 5 RX6 wsX6_readBoard D (tysC cy) A (wC ad cy) nwC) {Qp : zz_St → Prop} (hret : ∀ (σ2 : zz_St), Qp σ2 → ∀ (pc : Nat) (lv : List (Nat × Value)), decode cX6_readBoard pc = .ok (.return_, 1) → zz_G p l e zrm6_readBoard s m args below meth c Q D A (wC ad cy) 5 pc lv [] σ2) (h : zq6_readBoard σ Qp) : zz_G p l e zrm6_readBoard s m args below meth c Q D A (wC ad cy) 5 0 [(0, .ref (ad 1)), (1, .ref (ad 3))] [] σ := by
  unfold zq6_readBoard at h
  refine zz_iconst K dX6_readBoard_0 zcCi_0 ?_
  refine zz_istore_n K [(2, .int (0 : Int32)), (0, .ref (ad 1)), (1, .ref (ad 3))] dX6_readBoard_1 rfl (by decide) rfl ?_
  refine zz_aload_n K 1 dX6_readBoard_2 rfl rfl ?_
  refine zz_iconst K dX6_readBoard_3 zcCi_0 ?_
  refine zp6_4_0 K zin_X6_readBoard_X6 zlk_X6_readBoard_1 dX6_readBoard_4 ?_
  refine zz_nms (fun g28 eg28 => ?_)
  have h := h g28 eg28
  refine zz_iconst K dX6_readBoard_7 zcCi_0 ?_
  refine zz_istore_n K [(3, .int (0 : Int32)), (2, .int (0 : Int32)), (0, .ref (ad 1)), (1, .ref (ad 3))] dX6_readBoard_8 rfl (by decide) rfl ?_
  refine zz_sub [2, 3, 1, 0] [(0, .ref (ad 1)), (1, .ref (ad 3)), (2, .int (0 : Int32)), (3, .int (0 : Int32))] rfl ?_
  exact zu6_readBoard_9 K hret h
set_option maxRecDepth 100000 in
theorem zc6_readBoard (l : Launch) (D : va_G) (ad : Nat → Nat) (cy : Nat → ClassId)  (σ : zz_St) (Qp : zz_St → Prop) (h : zq6_readBoard σ Qp) : zz_Mv l yX6_readBoard wsX6_readBoard zrm6_readBoard D (tysC cy) (wC ad cy) nwC [.ref (ad 1), .ref (ad 3)] σ Qp :=
  zz_Mv.of zz_nwC (wC_ad ad cy) (by decide +kernel) rfl ⟨rfl, rfl⟩ (Nat.le_of_ble_eq_true rfl) (fun p e s m args below meth c A QW K hret => zu6_readBoard_0 K  hret h)
abbrev zrm6_hasTile : Room := { frames := 1, cells := 0, slots := 0, locals := 20 }
set_option maxHeartbeats 4000000 in
set_option maxRecDepth 100000 in
theorem zu6_hasTile_0 {p : Program} {l : Launch} {e : Env} {s : State} {m : MethodId} {args : Array Value} {below : List Frame} {meth : Method} {c : Code} {Q : State → Prop} {D : va_G} {A : Nat → Prop} {ad : Nat → Nat} {cy : Nat → ClassId} {v1 : Int32} {σ : zz_St} (K : zz_K p s m args c cX6_hasTile 2 RX6 wsX6_hasTile D (tysC cy) A (wC ad cy) nwC) {Qp : Int32 → Prop} (hret : ∀ (r : Int32), narrow .boolean (.int r) = .int r → Qp r → ∀ (pc : Nat) (lv : List (Nat × Value)), decode cX6_hasTile pc = .ok (.ireturn, 1) → zz_G p l e zrm6_hasTile s m args below meth c Q D A (wC ad cy) 2 pc lv [.int r] σ) (h : zq6_hasTile v1 σ Qp) : zz_G p l e zrm6_hasTile s m args below meth c Q D A (wC ad cy) 2 0 [(0, .ref (ad 1)), (1, .int v1)] [] σ := by
  unfold zq6_hasTile at h
  refine zz_iload_n K 1 dX6_hasTile_0 rfl rfl ?_
  refine zz_if_lt K 16 dX6_hasTile_1 rfl (fun c4 => ?_) (fun c4 => ?_)
  · have h := (And.left h) c4
    refine zz_iconst K dX6_hasTile_16 zcCi_0 ?_
    exact hret _ rfl h _ _ dX6_hasTile_17
  · have h := (And.right h) c4
    refine zz_iload_n K 1 dX6_hasTile_4 rfl rfl ?_
    refine zz_aload_n K 0 dX6_hasTile_5 rfl rfl ?_
    refine zz_callVi1 K zz_nwC [] (zc6_tileCount l D ad cy  σ _  h) gX6_hasTile_X6_tileCount rfl ⟨rfl, rfl⟩ zdsC_yX6_tileCount_v ⟨Nat.le_of_ble_eq_true rfl, Nat.le_of_ble_eq_true rfl⟩ (wC_at_1 ad cy σ) rfl rfl rfl rfl (Nat.le_of_ble_eq_true rfl) dX6_hasTile_6 (fun r5 h => ?_)
    refine zz_icmp_ge K 16 dX6_hasTile_9 rfl (fun c6 => ?_) (fun c6 => ?_)
    · have h := (And.left h) c6
      refine zz_iconst K dX6_hasTile_16 zcCi_0 ?_
      exact hret _ rfl h _ _ dX6_hasTile_17
    · have h := (And.right h) c6
      refine zz_iconst K dX6_hasTile_12 zcCi_1 ?_
      refine zz_goto K 17 dX6_hasTile_13 rfl ?_
      exact hret _ rfl h _ _ dX6_hasTile_17
set_option maxRecDepth 100000 in
theorem zc6_hasTile (l : Launch) (D : va_G) (ad : Nat → Nat) (cy : Nat → ClassId) (v1 : Int32) (σ : zz_St) (Qp : Int32 → Prop) (h : zq6_hasTile v1 σ Qp) : zz_Mi l yX6_hasTile wsX6_hasTile zrm6_hasTile D (tysC cy) (wC ad cy) nwC [.ref (ad 1), .int v1] σ (fun r σ2 => σ2 = σ ∧ Qp r) :=
  zz_Mi.of zz_nwC (wC_ad ad cy) (by decide +kernel) rfl ⟨rfl, rfl⟩ (Nat.le_of_ble_eq_true rfl) (fun p e s m args below meth c A QW K hret => zu6_hasTile_0 K  (fun r hn hq pc lv hd => hret r σ hn ⟨rfl, hq⟩ pc lv hd) h)
theorem zlk_X6_hasPlace_2 : Cond.initialized RX7 ∈ wsX6_hasPlace := List.mem_of_getElem? (i := 2) rfl
theorem zlk_X6_hasPlace_1 : Cond.static yX7_isTetra ∈ wsX6_hasPlace := List.mem_of_getElem? (i := 1) rfl
abbrev zrm6_hasPlace : Room := { frames := 1, cells := 0, slots := 0, locals := 20 }
set_option maxHeartbeats 4000000 in
set_option maxRecDepth 100000 in
theorem zu6_hasPlace_17 {p : Program} {l : Launch} {e : Env} {s : State} {m : MethodId} {args : Array Value} {below : List Frame} {meth : Method} {c : Code} {Q : State → Prop} {D : va_G} {A : Nat → Prop} {ad : Nat → Nat} {cy : Nat → ClassId} {s0 : Int32} {s1 : Int32} {σ : zz_St} (K : zz_K p s m args c cX6_hasPlace 3 RX6 wsX6_hasPlace D (tysC cy) A (wC ad cy) nwC) {Qp : Int32 → Prop} (hret : ∀ (r : Int32), narrow .boolean (.int r) = .int r → Qp r → ∀ (pc : Nat) (lv : List (Nat × Value)), decode cX6_hasPlace pc = .ok (.ireturn, 1) → zz_G p l e zrm6_hasPlace s m args below meth c Q D A (wC ad cy) 3 pc lv [.int r] σ) (h : zq6_hasPlace_17 s0 s1 σ Qp) : zz_G p l e zrm6_hasPlace s m args below meth c Q D A (wC ad cy) 3 17 [(0, .ref (ad 1))] [.int s0, .int s1] σ := by
  unfold zq6_hasPlace_17 at h
  refine zz_aload_n K 0 dX6_hasPlace_17 rfl rfl ?_
  refine zz_callVi1 K zz_nwC [] (zc6_tileCount l D ad cy  σ _  h) gX6_hasPlace_X6_tileCount rfl ⟨rfl, rfl⟩ zdsC_yX6_tileCount_v ⟨Nat.le_of_ble_eq_true rfl, Nat.le_of_ble_eq_true rfl⟩ (wC_at_1 ad cy σ) rfl rfl rfl rfl (Nat.le_of_ble_eq_true rfl) dX6_hasPlace_18 (fun r6 h => ?_)
  refine zz_imul K dX6_hasPlace_21 ?_
  refine zz_icmp_ge K 29 dX6_hasPlace_22 rfl (fun c7 => ?_) (fun c7 => ?_)
  · have h := (And.left h) c7
    refine zz_iconst K dX6_hasPlace_29 zcCi_0 ?_
    exact hret _ rfl h _ _ dX6_hasPlace_30
  · have h := (And.right h) c7
    refine zz_iconst K dX6_hasPlace_25 zcCi_1 ?_
    refine zz_goto K 30 dX6_hasPlace_26 rfl ?_
    exact hret _ rfl h _ _ dX6_hasPlace_30
set_option maxHeartbeats 4000000 in
set_option maxRecDepth 100000 in
theorem zu6_hasPlace_0 {p : Program} {l : Launch} {e : Env} {s : State} {m : MethodId} {args : Array Value} {below : List Frame} {meth : Method} {c : Code} {Q : State → Prop} {D : va_G} {A : Nat → Prop} {ad : Nat → Nat} {cy : Nat → ClassId} {v1 : Int32} {v2 : Int32} {σ : zz_St} (K : zz_K p s m args c cX6_hasPlace 3 RX6 wsX6_hasPlace D (tysC cy) A (wC ad cy) nwC) {Qp : Int32 → Prop} (hret : ∀ (r : Int32), narrow .boolean (.int r) = .int r → Qp r → ∀ (pc : Nat) (lv : List (Nat × Value)), decode cX6_hasPlace pc = .ok (.ireturn, 1) → zz_G p l e zrm6_hasPlace s m args below meth c Q D A (wC ad cy) 3 pc lv [.int r] σ) (h : zq6_hasPlace v1 v2 σ Qp) : zz_G p l e zrm6_hasPlace s m args below meth c Q D A (wC ad cy) 3 0 [(0, .ref (ad 1)), (1, .int v1), (2, .int v2)] [] σ := by
  unfold zq6_hasPlace at h
  refine zz_iload_n K 2 dX6_hasPlace_0 rfl rfl ?_
  refine zz_if_lt K 29 dX6_hasPlace_1 rfl (fun c8 => ?_) (fun c8 => ?_)
  · have h := (And.left h) c8
    refine zz_iconst K dX6_hasPlace_29 zcCi_0 ?_
    exact hret _ rfl h _ _ dX6_hasPlace_30
  · have h := (And.right h) c8
    refine zz_iload_n K 2 dX6_hasPlace_4 rfl rfl ?_
    refine zz_iload_n K 1 dX6_hasPlace_5 rfl rfl ?_
    refine zz_callNi1 K zz_nwC [.int v1] (zc7_isTetra l D ad cy v1 σ _  h) ggX6_hasPlace_X7_isTetra rfl ⟨rfl, rfl⟩ zdsC_yX7_isTetra_s ⟨Nat.le_of_ble_eq_true rfl, Nat.le_of_ble_eq_true rfl⟩ (List.mem_of_getElem? (i := 0) rfl) zlk_X6_hasPlace_2 zlk_X6_hasPlace_1 rfl rfl (Nat.le_of_ble_eq_true rfl) dX6_hasPlace_6 (fun r9 h => ?_)
    refine zz_if_eq K 16 dX6_hasPlace_9 rfl (fun c10 => ?_) (fun c10 => ?_)
    · have h := (And.left h) c10
      refine zz_iconst K dX6_hasPlace_16 zcCi_1 ?_
      refine zz_sub [0] [(0, .ref (ad 1))] rfl ?_
      exact zu6_hasPlace_17 K hret h
    · have h := (And.right h) c10
      refine zz_iconst K dX6_hasPlace_12 zcCi_2 ?_
      refine zz_goto K 17 dX6_hasPlace_13 rfl ?_
      refine zz_sub [0] [(0, .ref (ad 1))] rfl ?_
      exact zu6_hasPlace_17 K hret h
set_option maxRecDepth 100000 in
theorem zc6_hasPlace (l : Launch) (D : va_G) (ad : Nat → Nat) (cy : Nat → ClassId) (v1 : Int32) (v2 : Int32) (σ : zz_St) (Qp : Int32 → Prop) (h : zq6_hasPlace v1 v2 σ Qp) : zz_Mi l yX6_hasPlace wsX6_hasPlace zrm6_hasPlace D (tysC cy) (wC ad cy) nwC [.ref (ad 1), .int v1, .int v2] σ (fun r σ2 => σ2 = σ ∧ Qp r) :=
  zz_Mi.of zz_nwC (wC_ad ad cy) (by decide +kernel) rfl ⟨rfl, rfl⟩ (Nat.le_of_ble_eq_true rfl) (fun p e s m args below meth c A QW K hret => zu6_hasPlace_0 K  (fun r hn hq pc lv hd => hret r σ hn ⟨rfl, hq⟩ pc lv hd) h)
theorem zin_X6_isNone_X6 : ∀ w ∈ wsX60, w ∈ wsX6_isNone := fun w h => List.mem_cons_of_mem _ (List.mem_append_right _ h)
theorem zlk_X6_isNone_1 : Cond.fieldLink RX6 41 "SolidsRolled$World" "state" "I" ∈ wsX6_isNone := List.mem_of_getElem? (i := 1) rfl
abbrev zrm6_isNone : Room := { frames := 0, cells := 0, slots := 0, locals := 0 }
set_option maxHeartbeats 4000000 in
set_option maxRecDepth 100000 in
theorem zu6_isNone_0 {p : Program} {l : Launch} {e : Env} {s : State} {m : MethodId} {args : Array Value} {below : List Frame} {meth : Method} {c : Code} {Q : State → Prop} {D : va_G} {A : Nat → Prop} {ad : Nat → Nat} {cy : Nat → ClassId}  {σ : zz_St} (K : zz_K p s m args c cX6_isNone 1 RX6 wsX6_isNone D (tysC cy) A (wC ad cy) nwC) {Qp : Int32 → Prop} (hret : ∀ (r : Int32), narrow .boolean (.int r) = .int r → Qp r → ∀ (pc : Nat) (lv : List (Nat × Value)), decode cX6_isNone pc = .ok (.ireturn, 1) → zz_G p l e zrm6_isNone s m args below meth c Q D A (wC ad cy) 1 pc lv [.int r] σ) (h : zq6_isNone σ Qp) : zz_G p l e zrm6_isNone s m args below meth c Q D A (wC ad cy) 1 0 [(0, .ref (ad 1))] [] σ := by
  unfold zq6_isNone at h
  refine zz_aload_n K 0 dX6_isNone_0 rfl rfl ?_
  refine zg6_7_0 K zin_X6_isNone_X6 zlk_X6_isNone_1 dX6_isNone_1 ?_
  refine zz_if_ge K 11 dX6_isNone_4 rfl (fun c2 => ?_) (fun c2 => ?_)
  · have h := (And.left h) c2
    refine zz_iconst K dX6_isNone_11 zcCi_0 ?_
    exact hret _ rfl h _ _ dX6_isNone_12
  · have h := (And.right h) c2
    refine zz_iconst K dX6_isNone_7 zcCi_1 ?_
    refine zz_goto K 12 dX6_isNone_8 rfl ?_
    exact hret _ rfl h _ _ dX6_isNone_12
set_option maxRecDepth 100000 in
theorem zc6_isNone (l : Launch) (D : va_G) (ad : Nat → Nat) (cy : Nat → ClassId)  (σ : zz_St) (Qp : Int32 → Prop) (h : zq6_isNone σ Qp) : zz_Mi l yX6_isNone wsX6_isNone zrm6_isNone D (tysC cy) (wC ad cy) nwC [.ref (ad 1)] σ (fun r σ2 => σ2 = σ ∧ Qp r) :=
  zz_Mi.of zz_nwC (wC_ad ad cy) (by decide +kernel) rfl ⟨rfl, rfl⟩ (Nat.le_of_ble_eq_true rfl) (fun p e s m args below meth c A QW K hret => zu6_isNone_0 K  (fun r hn hq pc lv hd => hret r σ hn ⟨rfl, hq⟩ pc lv hd) h)
theorem zin_X6_placeNow_X6 : ∀ w ∈ wsX60, w ∈ wsX6_placeNow := fun w h => List.mem_cons_of_mem _ (List.mem_append_right _ h)
theorem zlk_X6_placeNow_1 : Cond.fieldLink RX6 41 "SolidsRolled$World" "state" "I" ∈ wsX6_placeNow := List.mem_of_getElem? (i := 1) rfl
abbrev zrm6_placeNow : Room := { frames := 0, cells := 0, slots := 0, locals := 0 }
set_option maxHeartbeats 4000000 in
set_option maxRecDepth 100000 in
theorem zu6_placeNow_0 {p : Program} {l : Launch} {e : Env} {s : State} {m : MethodId} {args : Array Value} {below : List Frame} {meth : Method} {c : Code} {Q : State → Prop} {D : va_G} {A : Nat → Prop} {ad : Nat → Nat} {cy : Nat → ClassId}  {σ : zz_St} (K : zz_K p s m args c cX6_placeNow 1 RX6 wsX6_placeNow D (tysC cy) A (wC ad cy) nwC) {Qp : Int32 → Prop} (hret : ∀ (r : Int32), narrow .int (.int r) = .int r → Qp r → ∀ (pc : Nat) (lv : List (Nat × Value)), decode cX6_placeNow pc = .ok (.ireturn, 1) → zz_G p l e zrm6_placeNow s m args below meth c Q D A (wC ad cy) 1 pc lv [.int r] σ) (h : zq6_placeNow σ Qp) : zz_G p l e zrm6_placeNow s m args below meth c Q D A (wC ad cy) 1 0 [(0, .ref (ad 1))] [] σ := by
  unfold zq6_placeNow at h
  refine zz_aload_n K 0 dX6_placeNow_0 rfl rfl ?_
  refine zg6_7_0 K zin_X6_placeNow_X6 zlk_X6_placeNow_1 dX6_placeNow_1 ?_
  refine zz_bipush K dX6_placeNow_4 zcCb_24 ?_
  refine zz_idiv K (by decide : ¬ (24 : Int32) = 0) dX6_placeNow_6 ?_
  exact hret _ rfl h _ _ dX6_placeNow_7
set_option maxRecDepth 100000 in
theorem zc6_placeNow (l : Launch) (D : va_G) (ad : Nat → Nat) (cy : Nat → ClassId)  (σ : zz_St) (Qp : Int32 → Prop) (h : zq6_placeNow σ Qp) : zz_Mi l yX6_placeNow wsX6_placeNow zrm6_placeNow D (tysC cy) (wC ad cy) nwC [.ref (ad 1)] σ (fun r σ2 => σ2 = σ ∧ Qp r) :=
  zz_Mi.of zz_nwC (wC_ad ad cy) (by decide +kernel) rfl ⟨rfl, rfl⟩ (Nat.le_of_ble_eq_true rfl) (fun p e s m args below meth c A QW K hret => zu6_placeNow_0 K  (fun r hn hq pc lv hd => hret r σ hn ⟨rfl, hq⟩ pc lv hd) h)
theorem zin_X6_stances_X6 : ∀ w ∈ wsX60, w ∈ wsX6_stances := fun w h => List.mem_cons_of_mem _ (List.mem_append_right _ h)
theorem zlk_X6_stances_1 : Cond.fieldLink RX6 38 "SolidsRolled$World" "kind" "I" ∈ wsX6_stances := List.mem_of_getElem? (i := 1) rfl
theorem zlk_X6_stances_3 : Cond.fieldLink RX6 9 "SolidsRolled$World" "cubes" "LSolidsRolled$Stances;" ∈ wsX6_stances := List.mem_of_getElem? (i := 3) rfl
theorem zlk_X6_stances_2 : Cond.fieldLink RX6 15 "SolidsRolled$World" "tetras" "LSolidsRolled$Stances;" ∈ wsX6_stances := List.mem_of_getElem? (i := 2) rfl
theorem zlk_X6_stances_5 : Cond.initialized RX7 ∈ wsX6_stances := List.mem_of_getElem? (i := 5) rfl
theorem zlk_X6_stances_4 : Cond.static yX7_isTetra ∈ wsX6_stances := List.mem_of_getElem? (i := 4) rfl
abbrev zrm6_stances : Room := { frames := 1, cells := 0, slots := 0, locals := 20 }
set_option maxHeartbeats 4000000 in
set_option maxRecDepth 100000 in
theorem zu6_stances_0 {p : Program} {l : Launch} {e : Env} {s : State} {m : MethodId} {args : Array Value} {below : List Frame} {meth : Method} {c : Code} {Q : State → Prop} {D : va_G} {A : Nat → Prop} {ad : Nat → Nat} {cy : Nat → ClassId}  {σ : zz_St} (K : zz_K p s m args c cX6_stances 1 RX6 wsX6_stances D (tysC cy) A (wC ad cy) nwC) {Qp : Nat → Prop} (hret : ∀ (r : Nat), Qp r → ∀ (pc : Nat) (lv : List (Nat × Value)), decode cX6_stances pc = .ok (.areturn, 1) → zz_G p l e zrm6_stances s m args below meth c Q D A (wC ad cy) 1 pc lv [.ref (ad (6 + r))] σ) (h : zq6_stances σ Qp) : zz_G p l e zrm6_stances s m args below meth c Q D A (wC ad cy) 1 0 [(0, .ref (ad 1))] [] σ := by
  unfold zq6_stances at h
  refine zz_aload_n K 0 dX6_stances_0 rfl rfl ?_
  refine zg6_6_0 K zin_X6_stances_X6 zlk_X6_stances_1 dX6_stances_1 ?_
  refine zz_callNi1 K zz_nwC [.int ((σ).1 6)] (zc7_isTetra l D ad cy ((σ).1 6) σ _  h) ggX6_stances_X7_isTetra rfl ⟨rfl, rfl⟩ zdsC_yX7_isTetra_s ⟨Nat.le_of_ble_eq_true rfl, Nat.le_of_ble_eq_true rfl⟩ (List.mem_of_getElem? (i := 0) rfl) zlk_X6_stances_5 zlk_X6_stances_4 rfl rfl (Nat.le_of_ble_eq_true rfl) dX6_stances_4 (fun r3 h => ?_)
  refine zz_if_eq K 17 dX6_stances_7 rfl (fun c4 => ?_) (fun c4 => ?_)
  · have h := (And.left h) c4
    refine zz_aload_n K 0 dX6_stances_17 rfl rfl ?_
    refine zg6_0_0 K zin_X6_stances_X6 zlk_X6_stances_3 dX6_stances_18 ?_
    exact hret _ h _ _ dX6_stances_21
  · have h := (And.right h) c4
    refine zz_aload_n K 0 dX6_stances_10 rfl rfl ?_
    refine zg6_1_0 K zin_X6_stances_X6 zlk_X6_stances_2 dX6_stances_11 ?_
    refine zz_goto K 21 dX6_stances_14 rfl ?_
    exact hret _ h _ _ dX6_stances_21
set_option maxRecDepth 100000 in
theorem zc6_stances (l : Launch) (D : va_G) (ad : Nat → Nat) (cy : Nat → ClassId)  (σ : zz_St) (Qp : Nat → Prop) (h : zq6_stances σ Qp) : zz_Mr l yX6_stances wsX6_stances zrm6_stances D (tysC cy) (wC ad cy) nwC [.ref (ad 1)] σ ad 6 (fun r σ2 => σ2 = σ ∧ Qp r) :=
  zz_Mr.of zz_nwC (wC_ad ad cy) (by decide +kernel) rfl ⟨rfl, rfl⟩ (Nat.le_of_ble_eq_true rfl) (fun p e s m args below meth c A QW K hret => zu6_stances_0 K  (fun r hq pc lv hd => hret r σ ⟨rfl, hq⟩ pc lv hd) h)
abbrev zrm6_stands : Room := { frames := 2, cells := 0, slots := 0, locals := 43 }
set_option maxHeartbeats 4000000 in
set_option maxRecDepth 100000 in
theorem zu6_stands_0 {p : Program} {l : Launch} {e : Env} {s : State} {m : MethodId} {args : Array Value} {below : List Frame} {meth : Method} {c : Code} {Q : State → Prop} {D : va_G} {A : Nat → Prop} {ad : Nat → Nat} {cy : Nat → ClassId} {v1 : Int32} {σ : zz_St} (K : zz_K p s m args c cX6_stands 2 RX6 wsX6_stands D (tysC cy) A (wC ad cy) nwC) {Qp : Int32 → Prop} (hret : ∀ (r : Int32), narrow .boolean (.int r) = .int r → Qp r → ∀ (pc : Nat) (lv : List (Nat × Value)), decode cX6_stands pc = .ok (.ireturn, 1) → zz_G p l e zrm6_stands s m args below meth c Q D A (wC ad cy) 2 pc lv [.int r] σ) (h : zq6_stands v1 σ Qp) : zz_G p l e zrm6_stands s m args below meth c Q D A (wC ad cy) 2 0 [(0, .ref (ad 1)), (1, .int v1)] [] σ := by
  unfold zq6_stands at h
  refine zz_aload_n K 0 dX6_stands_0 rfl rfl ?_
  refine zz_iload_n K 1 dX6_stands_1 rfl rfl ?_
  refine zz_bipush K dX6_stands_2 zcCb_24 ?_
  refine zz_irem K (by decide : ¬ (24 : Int32) = 0) dX6_stands_4 ?_
  refine zz_callVi1 K zz_nwC [.int (v1 - v1 / (24 : Int32) * (24 : Int32))] (zc6_lie l D ad cy (v1 - v1 / (24 : Int32) * (24 : Int32)) σ _  h) gX6_stands_X6_lie rfl ⟨rfl, rfl⟩ zdsC_yX6_lie_v ⟨Nat.le_of_ble_eq_true rfl, Nat.le_of_ble_eq_true rfl⟩ (wC_at_1 ad cy σ) rfl rfl rfl rfl (Nat.le_of_ble_eq_true rfl) dX6_stands_5 (fun r3 h => ?_)
  refine zz_if_ne K 15 dX6_stands_8 rfl (fun c4 => ?_) (fun c4 => ?_)
  · have h := (And.left h) c4
    refine zz_iconst K dX6_stands_15 zcCi_0 ?_
    exact hret _ rfl h _ _ dX6_stands_16
  · have h := (And.right h) c4
    refine zz_iconst K dX6_stands_11 zcCi_1 ?_
    refine zz_goto K 16 dX6_stands_12 rfl ?_
    exact hret _ rfl h _ _ dX6_stands_16
set_option maxRecDepth 100000 in
theorem zc6_stands (l : Launch) (D : va_G) (ad : Nat → Nat) (cy : Nat → ClassId) (v1 : Int32) (σ : zz_St) (Qp : Int32 → Prop) (h : zq6_stands v1 σ Qp) : zz_Mi l yX6_stands wsX6_stands zrm6_stands D (tysC cy) (wC ad cy) nwC [.ref (ad 1), .int v1] σ (fun r σ2 => σ2 = σ ∧ Qp r) :=
  zz_Mi.of zz_nwC (wC_ad ad cy) (by decide +kernel) rfl ⟨rfl, rfl⟩ (Nat.le_of_ble_eq_true rfl) (fun p e s m args below meth c A QW K hret => zu6_stands_0 K  (fun r hn hq pc lv hd => hret r σ hn ⟨rfl, hq⟩ pc lv hd) h)
theorem zin_X6_wouldBar_X6 : ∀ w ∈ wsX60, w ∈ wsX6_wouldBar := fun w h => List.mem_cons_of_mem _ (List.mem_append_left _ (List.mem_append_right _ h))
theorem zlk_X6_wouldBar_1 : Cond.fieldLink RX6 38 "SolidsRolled$World" "kind" "I" ∈ wsX6_wouldBar := List.mem_of_getElem? (i := 1) rfl
theorem zlk_X6_wouldBar_2 : Cond.fieldLink RX6 41 "SolidsRolled$World" "state" "I" ∈ wsX6_wouldBar := List.mem_of_getElem? (i := 2) rfl
theorem zdsC_yX6_stands_v : yX6_stands.cls = RX6 ∧ yX6_stands.cls ≠ "java/lang/invoke/MethodHandle" ∧ yX6_stands.cls ≠ "java/lang/invoke/VarHandle" ∧ (parseMethodDescriptor yX6_stands.desc).map (fun d => d.parameters.length) = some 1 := by decide +kernel
abbrev zrm6_wouldBar : Room := { frames := 3, cells := 0, slots := 0, locals := 64 }
set_option maxHeartbeats 4000000 in
set_option maxRecDepth 100000 in
theorem zu6_wouldBar_32 {p : Program} {l : Launch} {e : Env} {s : State} {m : MethodId} {args : Array Value} {below : List Frame} {meth : Method} {c : Code} {Q : State → Prop} {D : va_G} {A : Nat → Prop} {ad : Nat → Nat} {cy : Nat → ClassId} {v1 : Int32} {s0 : Int32} {σ : zz_St} (K : zz_K p s m args c cX6_wouldBar 3 RX6 wsX6_wouldBar D (tysC cy) A (wC ad cy) nwC) {Qp : Int32 → Prop} (hret : ∀ (r : Int32), narrow .boolean (.int r) = .int r → Qp r → ∀ (pc : Nat) (lv : List (Nat × Value)), decode cX6_wouldBar pc = .ok (.ireturn, 1) → zz_G p l e zrm6_wouldBar s m args below meth c Q D A (wC ad cy) 3 pc lv [.int r] σ) (h : zq6_wouldBar_32 v1 s0 σ Qp) : zz_G p l e zrm6_wouldBar s m args below meth c Q D A (wC ad cy) 3 32 [(1, .int v1)] [.int s0] σ := by
  unfold zq6_wouldBar_32 at h
  refine zz_istore_n K [(2, .int s0), (1, .int v1)] dX6_wouldBar_32 rfl (by decide) rfl ?_
  refine zz_iload_n K 1 dX6_wouldBar_33 rfl rfl ?_
  refine zz_iconst K dX6_wouldBar_34 zcCi_1 ?_
  refine zz_icmp_eq K 47 dX6_wouldBar_35 rfl (fun c8 => ?_) (fun c8 => ?_)
  · have h := (And.left h) c8
    refine zz_iconst K dX6_wouldBar_47 zcCi_1 ?_
    refine zz_goto K 52 dX6_wouldBar_48 rfl ?_
    exact hret _ rfl h _ _ dX6_wouldBar_52
  · have h := (And.right h) c8
    refine zz_iload_n K 0 dX6_wouldBar_38 rfl rfl ?_
    refine zz_if_eq K 51 dX6_wouldBar_39 rfl (fun c9 => ?_) (fun c9 => ?_)
    · have h := (And.left h) c9
      refine zz_iconst K dX6_wouldBar_51 zcCi_0 ?_
      exact hret _ rfl h _ _ dX6_wouldBar_52
    · have h := (And.right h) c9
      refine zz_iload_n K 1 dX6_wouldBar_42 rfl rfl ?_
      refine zz_iconst K dX6_wouldBar_43 zcCi_2 ?_
      refine zz_icmp_ne K 51 dX6_wouldBar_44 rfl (fun c10 => ?_) (fun c10 => ?_)
      · have h := (And.left h) c10
        refine zz_iconst K dX6_wouldBar_51 zcCi_0 ?_
        exact hret _ rfl h _ _ dX6_wouldBar_52
      · have h := (And.right h) c10
        refine zz_iconst K dX6_wouldBar_47 zcCi_1 ?_
        refine zz_goto K 52 dX6_wouldBar_48 rfl ?_
        exact hret _ rfl h _ _ dX6_wouldBar_52
set_option maxHeartbeats 4000000 in
set_option maxRecDepth 100000 in
theorem zu6_wouldBar_27 {p : Program} {l : Launch} {e : Env} {s : State} {m : MethodId} {args : Array Value} {below : List Frame} {meth : Method} {c : Code} {Q : State → Prop} {D : va_G} {A : Nat → Prop} {ad : Nat → Nat} {cy : Nat → ClassId} {v1 : Int32} {σ : zz_St} (K : zz_K p s m args c cX6_wouldBar 3 RX6 wsX6_wouldBar D (tysC cy) A (wC ad cy) nwC) {Qp : Int32 → Prop} (hret : ∀ (r : Int32), narrow .boolean (.int r) = .int r → Qp r → ∀ (pc : Nat) (lv : List (Nat × Value)), decode cX6_wouldBar pc = .ok (.ireturn, 1) → zz_G p l e zrm6_wouldBar s m args below meth c Q D A (wC ad cy) 3 pc lv [.int r] σ) (h : zq6_wouldBar_27 v1 σ Qp) : zz_G p l e zrm6_wouldBar s m args below meth c Q D A (wC ad cy) 3 27 [(1, .int v1)] [] σ := by
  unfold zq6_wouldBar_27 at h
  refine zz_iconst K dX6_wouldBar_27 zcCi_1 ?_
  refine zz_goto K 32 dX6_wouldBar_28 rfl ?_
  exact zu6_wouldBar_32 K hret h
set_option maxHeartbeats 4000000 in
set_option maxRecDepth 100000 in
theorem zu6_wouldBar_31 {p : Program} {l : Launch} {e : Env} {s : State} {m : MethodId} {args : Array Value} {below : List Frame} {meth : Method} {c : Code} {Q : State → Prop} {D : va_G} {A : Nat → Prop} {ad : Nat → Nat} {cy : Nat → ClassId} {v1 : Int32} {σ : zz_St} (K : zz_K p s m args c cX6_wouldBar 3 RX6 wsX6_wouldBar D (tysC cy) A (wC ad cy) nwC) {Qp : Int32 → Prop} (hret : ∀ (r : Int32), narrow .boolean (.int r) = .int r → Qp r → ∀ (pc : Nat) (lv : List (Nat × Value)), decode cX6_wouldBar pc = .ok (.ireturn, 1) → zz_G p l e zrm6_wouldBar s m args below meth c Q D A (wC ad cy) 3 pc lv [.int r] σ) (h : zq6_wouldBar_31 v1 σ Qp) : zz_G p l e zrm6_wouldBar s m args below meth c Q D A (wC ad cy) 3 31 [(1, .int v1)] [] σ := by
  unfold zq6_wouldBar_31 at h
  refine zz_iconst K dX6_wouldBar_31 zcCi_0 ?_
  exact zu6_wouldBar_32 K hret h
set_option maxHeartbeats 4000000 in
set_option maxRecDepth 100000 in
theorem zu6_wouldBar_0 {p : Program} {l : Launch} {e : Env} {s : State} {m : MethodId} {args : Array Value} {below : List Frame} {meth : Method} {c : Code} {Q : State → Prop} {D : va_G} {A : Nat → Prop} {ad : Nat → Nat} {cy : Nat → ClassId} {v1 : Int32} {σ : zz_St} (K : zz_K p s m args c cX6_wouldBar 3 RX6 wsX6_wouldBar D (tysC cy) A (wC ad cy) nwC) {Qp : Int32 → Prop} (hret : ∀ (r : Int32), narrow .boolean (.int r) = .int r → Qp r → ∀ (pc : Nat) (lv : List (Nat × Value)), decode cX6_wouldBar pc = .ok (.ireturn, 1) → zz_G p l e zrm6_wouldBar s m args below meth c Q D A (wC ad cy) 3 pc lv [.int r] σ) (h : zq6_wouldBar v1 σ Qp) : zz_G p l e zrm6_wouldBar s m args below meth c Q D A (wC ad cy) 3 0 [(0, .ref (ad 1)), (1, .int v1)] [] σ := by
  unfold zq6_wouldBar at h
  refine zz_aload_n K 0 dX6_wouldBar_0 rfl rfl ?_
  refine zg6_6_0 K zin_X6_wouldBar_X6 zlk_X6_wouldBar_1 dX6_wouldBar_1 ?_
  refine zz_iconst K dX6_wouldBar_4 zcCi_1 ?_
  refine zz_icmp_eq K 27 dX6_wouldBar_5 rfl (fun c11 => ?_) (fun c11 => ?_)
  · have h := (And.left h) c11
    refine zz_sub [1] [(1, .int v1)] rfl ?_
    exact zu6_wouldBar_27 K hret h
  · have h := (And.right h) c11
    refine zz_aload_n K 0 dX6_wouldBar_8 rfl rfl ?_
    refine zg6_6_0 K zin_X6_wouldBar_X6 zlk_X6_wouldBar_1 dX6_wouldBar_9 ?_
    refine zz_iconst K dX6_wouldBar_12 zcCi_3 ?_
    refine zz_icmp_ne K 31 dX6_wouldBar_13 rfl (fun c12 => ?_) (fun c12 => ?_)
    · have h := (And.left h) c12
      refine zz_sub [1] [(1, .int v1)] rfl ?_
      exact zu6_wouldBar_31 K hret h
    · have h := (And.right h) c12
      refine zz_aload_n K 0 dX6_wouldBar_16 rfl rfl ?_
      refine zz_aload_n K 0 dX6_wouldBar_17 rfl rfl ?_
      refine zg6_7_0 K zin_X6_wouldBar_X6 zlk_X6_wouldBar_2 dX6_wouldBar_18 ?_
      refine zz_callVi1 K zz_nwC [.int ((σ).1 8)] (zc6_stands l D ad cy ((σ).1 8) σ _  h) gX6_wouldBar_X6_stands rfl ⟨rfl, rfl⟩ zdsC_yX6_stands_v ⟨Nat.le_of_ble_eq_true rfl, Nat.le_of_ble_eq_true rfl⟩ (wC_at_1 ad cy σ) rfl rfl rfl rfl (Nat.le_of_ble_eq_true rfl) dX6_wouldBar_21 (fun r13 h => ?_)
      refine zz_if_ne K 31 dX6_wouldBar_24 rfl (fun c14 => ?_) (fun c14 => ?_)
      · have h := (And.left h) c14
        refine zz_sub [1] [(1, .int v1)] rfl ?_
        exact zu6_wouldBar_31 K hret h
      · have h := (And.right h) c14
        refine zz_sub [1] [(1, .int v1)] rfl ?_
        exact zu6_wouldBar_27 K hret h
set_option maxRecDepth 100000 in
theorem zc6_wouldBar (l : Launch) (D : va_G) (ad : Nat → Nat) (cy : Nat → ClassId) (v1 : Int32) (σ : zz_St) (Qp : Int32 → Prop) (h : zq6_wouldBar v1 σ Qp) : zz_Mi l yX6_wouldBar wsX6_wouldBar zrm6_wouldBar D (tysC cy) (wC ad cy) nwC [.ref (ad 1), .int v1] σ (fun r σ2 => σ2 = σ ∧ Qp r) :=
  zz_Mi.of zz_nwC (wC_ad ad cy) (by decide +kernel) rfl ⟨rfl, rfl⟩ (Nat.le_of_ble_eq_true rfl) (fun p e s m args below meth c A QW K hret => zu6_wouldBar_0 K  (fun r hn hq pc lv hd => hret r σ hn ⟨rfl, hq⟩ pc lv hd) h)
theorem zin_X6_isOn_X6 : ∀ w ∈ wsX60, w ∈ wsX6_isOn := fun w h => List.mem_cons_of_mem _ (List.mem_append_left _ (List.mem_append_right _ h))
theorem zlk_X6_isOn_1 : Cond.fieldLink RX6 41 "SolidsRolled$World" "state" "I" ∈ wsX6_isOn := List.mem_of_getElem? (i := 1) rfl
theorem zdsC_yX6_isNone_v : yX6_isNone.cls = RX6 ∧ yX6_isNone.cls ≠ "java/lang/invoke/MethodHandle" ∧ yX6_isNone.cls ≠ "java/lang/invoke/VarHandle" ∧ (parseMethodDescriptor yX6_isNone.desc).map (fun d => d.parameters.length) = some 0 := by decide +kernel
abbrev zrm6_isOn : Room := { frames := 3, cells := 0, slots := 0, locals := 65 }
set_option maxHeartbeats 4000000 in
set_option maxRecDepth 100000 in
theorem zu6_isOn_0 {p : Program} {l : Launch} {e : Env} {s : State} {m : MethodId} {args : Array Value} {below : List Frame} {meth : Method} {c : Code} {Q : State → Prop} {D : va_G} {A : Nat → Prop} {ad : Nat → Nat} {cy : Nat → ClassId} {v1 : Int32} {σ : zz_St} (K : zz_K p s m args c cX6_isOn 2 RX6 wsX6_isOn D (tysC cy) A (wC ad cy) nwC) {Qp : Int32 → Prop} (hret : ∀ (r : Int32), narrow .boolean (.int r) = .int r → Qp r → ∀ (pc : Nat) (lv : List (Nat × Value)), decode cX6_isOn pc = .ok (.ireturn, 1) → zz_G p l e zrm6_isOn s m args below meth c Q D A (wC ad cy) 2 pc lv [.int r] σ) (h : zq6_isOn v1 σ Qp) : zz_G p l e zrm6_isOn s m args below meth c Q D A (wC ad cy) 2 0 [(0, .ref (ad 1)), (1, .int v1)] [] σ := by
  unfold zq6_isOn at h
  refine zz_aload_n K 0 dX6_isOn_0 rfl rfl ?_
  refine zz_callVi1 K zz_nwC [] (zc6_isNone l D ad cy  σ _  h) gX6_isOn_X6_isNone rfl ⟨rfl, rfl⟩ zdsC_yX6_isNone_v ⟨Nat.le_of_ble_eq_true rfl, Nat.le_of_ble_eq_true rfl⟩ (wC_at_1 ad cy σ) rfl rfl rfl rfl (Nat.le_of_ble_eq_true rfl) dX6_isOn_1 (fun r5 h => ?_)
  refine zz_if_ne K 28 dX6_isOn_4 rfl (fun c6 => ?_) (fun c6 => ?_)
  · have h := (And.left h) c6
    refine zz_iconst K dX6_isOn_28 zcCi_0 ?_
    exact hret _ rfl h _ _ dX6_isOn_29
  · have h := (And.right h) c6
    refine zz_aload_n K 0 dX6_isOn_7 rfl rfl ?_
    refine zz_aload_n K 0 dX6_isOn_8 rfl rfl ?_
    refine zg6_7_0 K zin_X6_isOn_X6 zlk_X6_isOn_1 dX6_isOn_9 ?_
    refine zz_callVl1 K zz_nwC [.int ((σ).1 8)] (zc6_tilesUnder l D ad cy ((σ).1 8) σ _  h) gX6_isOn_X6_tilesUnder rfl ⟨rfl, rfl⟩ zdsC_yX6_tilesUnder_v ⟨Nat.le_of_ble_eq_true rfl, Nat.le_of_ble_eq_true rfl⟩ (wC_at_1 ad cy σ) rfl rfl rfl rfl (Nat.le_of_ble_eq_true rfl) dX6_isOn_12 (fun r7 h => ?_)
    refine zz_iload_n K 1 dX6_isOn_15 rfl rfl ?_
    refine zz_lshr K dX6_isOn_16 ?_
    refine zz_lconst K (v := (1 : Int64)) dX6_isOn_17 rfl ?_
    refine zz_land K dX6_isOn_18 ?_
    refine zz_lconst K (v := (1 : Int64)) dX6_isOn_19 rfl ?_
    refine zz_lcmp K dX6_isOn_20 ?_
    refine zz_if_ne K 28 dX6_isOn_21 rfl (fun c8 => ?_) (fun c8 => ?_)
    · have h := (And.left h) c8
      refine zz_iconst K dX6_isOn_28 zcCi_0 ?_
      exact hret _ rfl h _ _ dX6_isOn_29
    · have h := (And.right h) c8
      refine zz_iconst K dX6_isOn_24 zcCi_1 ?_
      refine zz_goto K 29 dX6_isOn_25 rfl ?_
      exact hret _ rfl h _ _ dX6_isOn_29
set_option maxRecDepth 100000 in
theorem zc6_isOn (l : Launch) (D : va_G) (ad : Nat → Nat) (cy : Nat → ClassId) (v1 : Int32) (σ : zz_St) (Qp : Int32 → Prop) (h : zq6_isOn v1 σ Qp) : zz_Mi l yX6_isOn wsX6_isOn zrm6_isOn D (tysC cy) (wC ad cy) nwC [.ref (ad 1), .int v1] σ (fun r σ2 => σ2 = σ ∧ Qp r) :=
  zz_Mi.of zz_nwC (wC_ad ad cy) (by decide +kernel) rfl ⟨rfl, rfl⟩ (Nat.le_of_ble_eq_true rfl) (fun p e s m args below meth c A QW K hret => zu6_isOn_0 K  (fun r hn hq pc lv hd => hret r σ hn ⟨rfl, hq⟩ pc lv hd) h)
theorem zin_X6_countTiles_X6 : ∀ w ∈ wsX60, w ∈ wsX6_countTiles := fun w h => List.mem_cons_of_mem _ (List.mem_append_right _ h)
theorem zlk_X6_countTiles_1 : Cond.fieldLink RX6 18 "SolidsRolled$World" "tiles" "[I" ∈ wsX6_countTiles := List.mem_of_getElem? (i := 1) rfl
abbrev zrm6_countTiles : Room := { frames := 1, cells := 0, slots := 0, locals := 20 }
set_option maxHeartbeats 4000000 in
set_option maxRecDepth 100000 in
theorem zu6_countTiles_25 {p : Program} {l : Launch} {e : Env} {s : State} {m : MethodId} {args : Array Value} {below : List Frame} {meth : Method} {c : Code} {Q : State → Prop} {D : va_G} {A : Nat → Prop} {ad : Nat → Nat} {cy : Nat → ClassId} {v1 : Int32} {v2 : Int32} {v3 : Int32} {σ : zz_St} (K : zz_K p s m args c cX6_countTiles 4 RX6 wsX6_countTiles D (tysC cy) A (wC ad cy) nwC) {Qp : Int32 → Prop} (hret : ∀ (r : Int32), narrow .int (.int r) = .int r → Qp r → ∀ (pc : Nat) (lv : List (Nat × Value)), decode cX6_countTiles pc = .ok (.ireturn, 1) → zz_G p l e zrm6_countTiles s m args below meth c Q D A (wC ad cy) 4 pc lv [.int r] σ) {B4 : Int32 → Int32 → Prop} (hB4 : ∀ (v2' : Int32) (v3' : Int32), B4 v2' v3' → zz_G p l e zrm6_countTiles s m args below meth c Q D A (wC ad cy) 4 4 [(0, .ref (ad 1)), (1, .int v1), (2, .int v2'), (3, .int v3')] [] σ) (h : zq6_countTiles_25 v1 v2 v3 σ Qp B4) : zz_G p l e zrm6_countTiles s m args below meth c Q D A (wC ad cy) 4 25 [(0, .ref (ad 1)), (1, .int v1), (2, .int v2), (3, .int v3)] [] σ := by
  unfold zq6_countTiles_25 at h
  refine zz_iinc K 3 [(3, .int (v3 + (1 : Int32))), (0, .ref (ad 1)), (1, .int v1), (2, .int v2)] dX6_countTiles_25 zcCi_1 rfl (by decide) rfl ?_
  refine zz_goto K 4 dX6_countTiles_28 rfl ?_
  refine zz_sub [1, 2, 3, 0] [(0, .ref (ad 1)), (1, .int v1), (2, .int v2), (3, .int (v3 + (1 : Int32)))] rfl ?_
  exact hB4 v2 (v3 + (1 : Int32)) h
set_option maxHeartbeats 4000000 in
set_option maxRecDepth 100000 in
theorem zu6_countTiles_4 {p : Program} {l : Launch} {e : Env} {s : State} {m : MethodId} {args : Array Value} {below : List Frame} {meth : Method} {c : Code} {Q : State → Prop} {D : va_G} {A : Nat → Prop} {ad : Nat → Nat} {cy : Nat → ClassId} {v1 : Int32} {v2 : Int32} {v3 : Int32} {σ : zz_St} (K : zz_K p s m args c cX6_countTiles 4 RX6 wsX6_countTiles D (tysC cy) A (wC ad cy) nwC) {Qp : Int32 → Prop} (hret : ∀ (r : Int32), narrow .int (.int r) = .int r → Qp r → ∀ (pc : Nat) (lv : List (Nat × Value)), decode cX6_countTiles pc = .ok (.ireturn, 1) → zz_G p l e zrm6_countTiles s m args below meth c Q D A (wC ad cy) 4 pc lv [.int r] σ) (h : zq6_countTiles_4 v1 v2 v3 σ Qp) : zz_G p l e zrm6_countTiles s m args below meth c Q D A (wC ad cy) 4 4 [(0, .ref (ad 1)), (1, .int v1), (2, .int v2), (3, .int v3)] [] σ := by
  unfold zq6_countTiles_4 at h
  obtain ⟨I4, M4, h0, hs⟩ := h
  have key : ∀ (nq : Nat) (v2 : Int32) (v3 : Int32), M4 v2 v3 < nq → I4 v2 v3 → zz_G p l e zrm6_countTiles s m args below meth c Q D A (wC ad cy) 4 4 [(0, .ref (ad 1)), (1, .int v1), (2, .int v2), (3, .int v3)] [] σ := by
    intro nq
    induction nq with
    | zero => intro v2 v3 hlt; exact absurd hlt (Nat.not_lt_zero _)
    | succ nq ih =>
      intro v2 v3 hlt hI
      have h := hs v2 v3 hI
      have hB4 : ∀ (v2' : Int32) (v3' : Int32), (fun v2' v3' => I4 v2' v3' ∧ M4 v2' v3' < M4 v2 v3) v2' v3' → zz_G p l e zrm6_countTiles s m args below meth c Q D A (wC ad cy) 4 4 [(0, .ref (ad 1)), (1, .int v1), (2, .int v2'), (3, .int v3')] [] σ := fun v2' v3' hz => ih v2' v3' (Nat.lt_of_lt_of_le hz.2 (Nat.le_of_lt_succ hlt)) hz.1
      refine zz_iload_n K 3 dX6_countTiles_4 rfl rfl ?_
      refine zz_aload_n K 0 dX6_countTiles_5 rfl rfl ?_
      refine zz_callVi1 K zz_nwC [] (zc6_tileCount l D ad cy  σ _  h) gX6_countTiles_X6_tileCount rfl ⟨rfl, rfl⟩ zdsC_yX6_tileCount_v ⟨Nat.le_of_ble_eq_true rfl, Nat.le_of_ble_eq_true rfl⟩ (wC_at_1 ad cy σ) rfl rfl rfl rfl (Nat.le_of_ble_eq_true rfl) dX6_countTiles_6 (fun r4 h => ?_)
      refine zz_icmp_ge K 31 dX6_countTiles_9 rfl (fun c5 => ?_) (fun c5 => ?_)
      · have h := (And.left h) c5
        refine zz_iload_n K 2 dX6_countTiles_31 rfl rfl ?_
        exact hret _ rfl h _ _ dX6_countTiles_32
      · have h := (And.right h) c5
        refine zz_aload_n K 0 dX6_countTiles_12 rfl rfl ?_
        refine zg6_2_0 K zin_X6_countTiles_X6 zlk_X6_countTiles_1 dX6_countTiles_13 ?_
        refine zz_iload_n K 3 dX6_countTiles_16 rfl rfl ?_
        obtain ⟨hin, h⟩ := h
        refine zz_iaload K 0 (wC_at_14 ad cy σ) rfl hin dX6_countTiles_17 ?_
        refine zz_iload_n K 1 dX6_countTiles_18 rfl rfl ?_
        refine zz_icmp_ne K 25 dX6_countTiles_19 rfl (fun c6 => ?_) (fun c6 => ?_)
        · have h := (And.left h) c6
          exact zu6_countTiles_25 K hret hB4 h
        · have h := (And.right h) c6
          refine zz_iinc K 2 [(2, .int (v2 + (1 : Int32))), (0, .ref (ad 1)), (1, .int v1), (3, .int v3)] dX6_countTiles_22 zcCi_1 rfl (by decide) rfl ?_
          refine zz_sub [1, 2, 0, 3] [(0, .ref (ad 1)), (1, .int v1), (2, .int (v2 + (1 : Int32))), (3, .int v3)] rfl ?_
          exact zu6_countTiles_25 K hret hB4 h
  exact key _ v2 v3 (Nat.lt_succ_self _) h0
set_option maxHeartbeats 4000000 in
set_option maxRecDepth 100000 in
theorem zu6_countTiles_0 {p : Program} {l : Launch} {e : Env} {s : State} {m : MethodId} {args : Array Value} {below : List Frame} {meth : Method} {c : Code} {Q : State → Prop} {D : va_G} {A : Nat → Prop} {ad : Nat → Nat} {cy : Nat → ClassId} {v1 : Int32} {σ : zz_St} (K : zz_K p s m args c cX6_countTiles 4 RX6 wsX6_countTiles D (tysC cy) A (wC ad cy) nwC) {Qp : Int32 → Prop} (hret : ∀ (r : Int32), narrow .int (.int r) = .int r → Qp r → ∀ (pc : Nat) (lv : List (Nat × Value)), decode cX6_countTiles pc = .ok (.ireturn, 1) → zz_G p l e zrm6_countTiles s m args below meth c Q D A (wC ad cy) 4 pc lv [.int r] σ) (h : zq6_countTiles v1 σ Qp) : zz_G p l e zrm6_countTiles s m args below meth c Q D A (wC ad cy) 4 0 [(0, .ref (ad 1)), (1, .int v1)] [] σ := by
  unfold zq6_countTiles at h
  refine zz_iconst K dX6_countTiles_0 zcCi_0 ?_
  refine zz_istore_n K [(2, .int (0 : Int32)), (0, .ref (ad 1)), (1, .int v1)] dX6_countTiles_1 rfl (by decide) rfl ?_
  refine zz_iconst K dX6_countTiles_2 zcCi_0 ?_
  refine zz_istore_n K [(3, .int (0 : Int32)), (2, .int (0 : Int32)), (0, .ref (ad 1)), (1, .int v1)] dX6_countTiles_3 rfl (by decide) rfl ?_
  refine zz_sub [2, 3, 1, 0] [(0, .ref (ad 1)), (1, .int v1), (2, .int (0 : Int32)), (3, .int (0 : Int32))] rfl ?_
  exact zu6_countTiles_4 K hret h
set_option maxRecDepth 100000 in
theorem zc6_countTiles (l : Launch) (D : va_G) (ad : Nat → Nat) (cy : Nat → ClassId) (v1 : Int32) (σ : zz_St) (Qp : Int32 → Prop) (h : zq6_countTiles v1 σ Qp) : zz_Mi l yX6_countTiles wsX6_countTiles zrm6_countTiles D (tysC cy) (wC ad cy) nwC [.ref (ad 1), .int v1] σ (fun r σ2 => σ2 = σ ∧ Qp r) :=
  zz_Mi.of zz_nwC (wC_ad ad cy) (by decide +kernel) rfl ⟨rfl, rfl⟩ (Nat.le_of_ble_eq_true rfl) (fun p e s m args below meth c A QW K hret => zu6_countTiles_0 K  (fun r hn hq pc lv hd => hret r σ hn ⟨rfl, hq⟩ pc lv hd) h)
theorem zin_X6_countPrints_X6 : ∀ w ∈ wsX60, w ∈ wsX6_countPrints := fun w h => List.mem_cons_of_mem _ (List.mem_append_right _ h)
theorem zlk_X6_countPrints_1 : Cond.fieldLink RX6 22 "SolidsRolled$World" "prints" "[I" ∈ wsX6_countPrints := List.mem_of_getElem? (i := 1) rfl
abbrev zrm6_countPrints : Room := { frames := 1, cells := 0, slots := 0, locals := 20 }
set_option maxHeartbeats 4000000 in
set_option maxRecDepth 100000 in
theorem zu6_countPrints_25 {p : Program} {l : Launch} {e : Env} {s : State} {m : MethodId} {args : Array Value} {below : List Frame} {meth : Method} {c : Code} {Q : State → Prop} {D : va_G} {A : Nat → Prop} {ad : Nat → Nat} {cy : Nat → ClassId} {v1 : Int32} {v2 : Int32} {σ : zz_St} (K : zz_K p s m args c cX6_countPrints 3 RX6 wsX6_countPrints D (tysC cy) A (wC ad cy) nwC) {Qp : Int32 → Prop} (hret : ∀ (r : Int32), narrow .int (.int r) = .int r → Qp r → ∀ (pc : Nat) (lv : List (Nat × Value)), decode cX6_countPrints pc = .ok (.ireturn, 1) → zz_G p l e zrm6_countPrints s m args below meth c Q D A (wC ad cy) 3 pc lv [.int r] σ) {B4 : Int32 → Int32 → Prop} (hB4 : ∀ (v1' : Int32) (v2' : Int32), B4 v1' v2' → zz_G p l e zrm6_countPrints s m args below meth c Q D A (wC ad cy) 3 4 [(0, .ref (ad 1)), (1, .int v1'), (2, .int v2')] [] σ) (h : zq6_countPrints_25 v1 v2 σ Qp B4) : zz_G p l e zrm6_countPrints s m args below meth c Q D A (wC ad cy) 3 25 [(0, .ref (ad 1)), (1, .int v1), (2, .int v2)] [] σ := by
  unfold zq6_countPrints_25 at h
  refine zz_iinc K 2 [(2, .int (v2 + (1 : Int32))), (0, .ref (ad 1)), (1, .int v1)] dX6_countPrints_25 zcCi_1 rfl (by decide) rfl ?_
  refine zz_goto K 4 dX6_countPrints_28 rfl ?_
  refine zz_sub [1, 2, 0] [(0, .ref (ad 1)), (1, .int v1), (2, .int (v2 + (1 : Int32)))] rfl ?_
  exact hB4 v1 (v2 + (1 : Int32)) h
set_option maxHeartbeats 4000000 in
set_option maxRecDepth 100000 in
theorem zu6_countPrints_4 {p : Program} {l : Launch} {e : Env} {s : State} {m : MethodId} {args : Array Value} {below : List Frame} {meth : Method} {c : Code} {Q : State → Prop} {D : va_G} {A : Nat → Prop} {ad : Nat → Nat} {cy : Nat → ClassId} {v1 : Int32} {v2 : Int32} {σ : zz_St} (K : zz_K p s m args c cX6_countPrints 3 RX6 wsX6_countPrints D (tysC cy) A (wC ad cy) nwC) {Qp : Int32 → Prop} (hret : ∀ (r : Int32), narrow .int (.int r) = .int r → Qp r → ∀ (pc : Nat) (lv : List (Nat × Value)), decode cX6_countPrints pc = .ok (.ireturn, 1) → zz_G p l e zrm6_countPrints s m args below meth c Q D A (wC ad cy) 3 pc lv [.int r] σ) (h : zq6_countPrints_4 v1 v2 σ Qp) : zz_G p l e zrm6_countPrints s m args below meth c Q D A (wC ad cy) 3 4 [(0, .ref (ad 1)), (1, .int v1), (2, .int v2)] [] σ := by
  unfold zq6_countPrints_4 at h
  obtain ⟨I4, M4, h0, hs⟩ := h
  have key : ∀ (nq : Nat) (v1 : Int32) (v2 : Int32), M4 v1 v2 < nq → I4 v1 v2 → zz_G p l e zrm6_countPrints s m args below meth c Q D A (wC ad cy) 3 4 [(0, .ref (ad 1)), (1, .int v1), (2, .int v2)] [] σ := by
    intro nq
    induction nq with
    | zero => intro v1 v2 hlt; exact absurd hlt (Nat.not_lt_zero _)
    | succ nq ih =>
      intro v1 v2 hlt hI
      have h := hs v1 v2 hI
      have hB4 : ∀ (v1' : Int32) (v2' : Int32), (fun v1' v2' => I4 v1' v2' ∧ M4 v1' v2' < M4 v1 v2) v1' v2' → zz_G p l e zrm6_countPrints s m args below meth c Q D A (wC ad cy) 3 4 [(0, .ref (ad 1)), (1, .int v1'), (2, .int v2')] [] σ := fun v1' v2' hz => ih v1' v2' (Nat.lt_of_lt_of_le hz.2 (Nat.le_of_lt_succ hlt)) hz.1
      refine zz_iload_n K 2 dX6_countPrints_4 rfl rfl ?_
      refine zz_aload_n K 0 dX6_countPrints_5 rfl rfl ?_
      refine zz_callVi1 K zz_nwC [] (zc6_tileCount l D ad cy  σ _  h) gX6_countPrints_X6_tileCount rfl ⟨rfl, rfl⟩ zdsC_yX6_tileCount_v ⟨Nat.le_of_ble_eq_true rfl, Nat.le_of_ble_eq_true rfl⟩ (wC_at_1 ad cy σ) rfl rfl rfl rfl (Nat.le_of_ble_eq_true rfl) dX6_countPrints_6 (fun r4 h => ?_)
      refine zz_icmp_ge K 31 dX6_countPrints_9 rfl (fun c5 => ?_) (fun c5 => ?_)
      · have h := (And.left h) c5
        refine zz_iload_n K 1 dX6_countPrints_31 rfl rfl ?_
        exact hret _ rfl h _ _ dX6_countPrints_32
      · have h := (And.right h) c5
        refine zz_aload_n K 0 dX6_countPrints_12 rfl rfl ?_
        refine zg6_3_0 K zin_X6_countPrints_X6 zlk_X6_countPrints_1 dX6_countPrints_13 ?_
        refine zz_iload_n K 2 dX6_countPrints_16 rfl rfl ?_
        obtain ⟨hin, h⟩ := h
        refine zz_iaload K 0 (wC_at_16 ad cy σ) rfl hin dX6_countPrints_17 ?_
        refine zz_iconst K dX6_countPrints_18 zcCi_m1 ?_
        refine zz_icmp_eq K 25 dX6_countPrints_19 rfl (fun c6 => ?_) (fun c6 => ?_)
        · have h := (And.left h) c6
          exact zu6_countPrints_25 K hret hB4 h
        · have h := (And.right h) c6
          refine zz_iinc K 1 [(1, .int (v1 + (1 : Int32))), (0, .ref (ad 1)), (2, .int v2)] dX6_countPrints_22 zcCi_1 rfl (by decide) rfl ?_
          refine zz_sub [1, 0, 2] [(0, .ref (ad 1)), (1, .int (v1 + (1 : Int32))), (2, .int v2)] rfl ?_
          exact zu6_countPrints_25 K hret hB4 h
  exact key _ v1 v2 (Nat.lt_succ_self _) h0
set_option maxHeartbeats 4000000 in
set_option maxRecDepth 100000 in
theorem zu6_countPrints_0 {p : Program} {l : Launch} {e : Env} {s : State} {m : MethodId} {args : Array Value} {below : List Frame} {meth : Method} {c : Code} {Q : State → Prop} {D : va_G} {A : Nat → Prop} {ad : Nat → Nat} {cy : Nat → ClassId}  {σ : zz_St} (K : zz_K p s m args c cX6_countPrints 3 RX6 wsX6_countPrints D (tysC cy) A (wC ad cy) nwC) {Qp : Int32 → Prop} (hret : ∀ (r : Int32), narrow .int (.int r) = .int r → Qp r → ∀ (pc : Nat) (lv : List (Nat × Value)), decode cX6_countPrints pc = .ok (.ireturn, 1) → zz_G p l e zrm6_countPrints s m args below meth c Q D A (wC ad cy) 3 pc lv [.int r] σ) (h : zq6_countPrints σ Qp) : zz_G p l e zrm6_countPrints s m args below meth c Q D A (wC ad cy) 3 0 [(0, .ref (ad 1))] [] σ := by
  unfold zq6_countPrints at h
  refine zz_iconst K dX6_countPrints_0 zcCi_0 ?_
  refine zz_istore_n K [(1, .int (0 : Int32)), (0, .ref (ad 1))] dX6_countPrints_1 rfl (by decide) rfl ?_
  refine zz_iconst K dX6_countPrints_2 zcCi_0 ?_
  refine zz_istore_n K [(2, .int (0 : Int32)), (1, .int (0 : Int32)), (0, .ref (ad 1))] dX6_countPrints_3 rfl (by decide) rfl ?_
  refine zz_sub [2, 1, 0] [(0, .ref (ad 1)), (1, .int (0 : Int32)), (2, .int (0 : Int32))] rfl ?_
  exact zu6_countPrints_4 K hret h
set_option maxRecDepth 100000 in
theorem zc6_countPrints (l : Launch) (D : va_G) (ad : Nat → Nat) (cy : Nat → ClassId)  (σ : zz_St) (Qp : Int32 → Prop) (h : zq6_countPrints σ Qp) : zz_Mi l yX6_countPrints wsX6_countPrints zrm6_countPrints D (tysC cy) (wC ad cy) nwC [.ref (ad 1)] σ (fun r σ2 => σ2 = σ ∧ Qp r) :=
  zz_Mi.of zz_nwC (wC_ad ad cy) (by decide +kernel) rfl ⟨rfl, rfl⟩ (Nat.le_of_ble_eq_true rfl) (fun p e s m args below meth c A QW K hret => zu6_countPrints_0 K  (fun r hn hq pc lv hd => hret r σ hn ⟨rfl, hq⟩ pc lv hd) h)
theorem zin_X6_printBelow_X6 : ∀ w ∈ wsX60, w ∈ wsX6_printBelow := fun w h => List.mem_cons_of_mem _ (List.mem_append_left _ (List.mem_append_right _ h))
theorem zlk_X6_printBelow_1 : Cond.fieldLink RX6 41 "SolidsRolled$World" "state" "I" ∈ wsX6_printBelow := List.mem_of_getElem? (i := 1) rfl
theorem zlk_X6_printBelow_2 : Cond.fieldLink RX6 22 "SolidsRolled$World" "prints" "[I" ∈ wsX6_printBelow := List.mem_of_getElem? (i := 2) rfl
abbrev zrm6_printBelow : Room := { frames := 3, cells := 0, slots := 0, locals := 65 }
set_option maxHeartbeats 4000000 in
set_option maxRecDepth 100000 in
theorem zu6_printBelow_41 {p : Program} {l : Launch} {e : Env} {s : State} {m : MethodId} {args : Array Value} {below : List Frame} {meth : Method} {c : Code} {Q : State → Prop} {D : va_G} {A : Nat → Prop} {ad : Nat → Nat} {cy : Nat → ClassId} {v1 : Int64} {v3 : Int32} {σ : zz_St} (K : zz_K p s m args c cX6_printBelow 4 RX6 wsX6_printBelow D (tysC cy) A (wC ad cy) nwC) {Qp : zz_St → Prop} (hret : ∀ (σ2 : zz_St), Qp σ2 → ∀ (pc : Nat) (lv : List (Nat × Value)), decode cX6_printBelow pc = .ok (.return_, 1) → zz_G p l e zrm6_printBelow s m args below meth c Q D A (wC ad cy) 4 pc lv [] σ2) {B11 : Int32 → zz_St → Prop} (hB11 : ∀ (v3' : Int32) (σ' : zz_St), B11 v3' σ' → zz_G p l e zrm6_printBelow s m args below meth c Q D A (wC ad cy) 4 11 [(0, .ref (ad 1)), (1, .long v1), (3, .int v3')] [] σ') (h : zq6_printBelow_41 v1 v3 σ Qp B11) : zz_G p l e zrm6_printBelow s m args below meth c Q D A (wC ad cy) 4 41 [(0, .ref (ad 1)), (1, .long v1), (3, .int v3)] [] σ := by
  unfold zq6_printBelow_41 at h
  refine zz_iinc K 2 [(3, .int (v3 + (1 : Int32))), (0, .ref (ad 1)), (1, .long v1)] dX6_printBelow_41 zcCi_1 rfl (by decide) rfl ?_
  refine zz_goto K 11 dX6_printBelow_44 rfl ?_
  refine zz_sub [1, 2, 0] [(0, .ref (ad 1)), (1, .long v1), (3, .int (v3 + (1 : Int32)))] rfl ?_
  exact hB11 (v3 + (1 : Int32)) σ h
set_option maxHeartbeats 4000000 in
set_option maxRecDepth 100000 in
theorem zu6_printBelow_11 {p : Program} {l : Launch} {e : Env} {s : State} {m : MethodId} {args : Array Value} {below : List Frame} {meth : Method} {c : Code} {Q : State → Prop} {D : va_G} {A : Nat → Prop} {ad : Nat → Nat} {cy : Nat → ClassId} {v1 : Int64} {v3 : Int32} {σ : zz_St} (K : zz_K p s m args c cX6_printBelow 4 RX6 wsX6_printBelow D (tysC cy) A (wC ad cy) nwC) {Qp : zz_St → Prop} (hret : ∀ (σ2 : zz_St), Qp σ2 → ∀ (pc : Nat) (lv : List (Nat × Value)), decode cX6_printBelow pc = .ok (.return_, 1) → zz_G p l e zrm6_printBelow s m args below meth c Q D A (wC ad cy) 4 pc lv [] σ2) (h : zq6_printBelow_11 v1 v3 σ Qp) : zz_G p l e zrm6_printBelow s m args below meth c Q D A (wC ad cy) 4 11 [(0, .ref (ad 1)), (1, .long v1), (3, .int v3)] [] σ := by
  unfold zq6_printBelow_11 at h
  obtain ⟨I11, M11, h0, hs⟩ := h
  have key : ∀ (nq : Nat) (v3 : Int32) (σ : zz_St), M11 v3 σ < nq → I11 v3 σ → zz_G p l e zrm6_printBelow s m args below meth c Q D A (wC ad cy) 4 11 [(0, .ref (ad 1)), (1, .long v1), (3, .int v3)] [] σ := by
    intro nq
    induction nq with
    | zero => intro v3 σ hlt; exact absurd hlt (Nat.not_lt_zero _)
    | succ nq ih =>
      intro v3 σ hlt hI
      have h := hs v3 σ hI
      have hB11 : ∀ (v3' : Int32) (σ' : zz_St), (fun v3' σ' => I11 v3' σ' ∧ M11 v3' σ' < M11 v3 σ) v3' σ' → zz_G p l e zrm6_printBelow s m args below meth c Q D A (wC ad cy) 4 11 [(0, .ref (ad 1)), (1, .long v1), (3, .int v3')] [] σ' := fun v3' σ' hz => ih v3' σ' (Nat.lt_of_lt_of_le hz.2 (Nat.le_of_lt_succ hlt)) hz.1
      refine zz_iload_n K 2 dX6_printBelow_11 rfl rfl ?_
      refine zz_bipush K dX6_printBelow_12 zcCb_36 ?_
      refine zz_icmp_ge K 47 dX6_printBelow_14 rfl (fun c6 => ?_) (fun c6 => ?_)
      · have h := (And.left h) c6
        exact hret _ h _ _ dX6_printBelow_47
      · have h := (And.right h) c6
        refine zz_lload_n K 1 dX6_printBelow_17 rfl rfl ?_
        refine zz_iload_n K 2 dX6_printBelow_18 rfl rfl ?_
        refine zz_lshr K dX6_printBelow_19 ?_
        refine zz_lconst K (v := (1 : Int64)) dX6_printBelow_20 rfl ?_
        refine zz_land K dX6_printBelow_21 ?_
        refine zz_lconst K (v := (1 : Int64)) dX6_printBelow_22 rfl ?_
        refine zz_lcmp K dX6_printBelow_23 ?_
        refine zz_if_ne K 41 dX6_printBelow_24 rfl (fun c7 => ?_) (fun c7 => ?_)
        · have h := (And.left h) c7
          exact zu6_printBelow_41 K hret hB11 h
        · have h := (And.right h) c7
          refine zz_aload_n K 0 dX6_printBelow_27 rfl rfl ?_
          refine zg6_3_0 K zin_X6_printBelow_X6 zlk_X6_printBelow_2 dX6_printBelow_28 ?_
          refine zz_iload_n K 2 dX6_printBelow_31 rfl rfl ?_
          refine zz_aload_n K 0 dX6_printBelow_32 rfl rfl ?_
          refine zz_aload_n K 0 dX6_printBelow_33 rfl rfl ?_
          refine zg6_7_0 K zin_X6_printBelow_X6 zlk_X6_printBelow_1 dX6_printBelow_34 ?_
          refine zz_callVi1 K zz_nwC [.int ((σ).1 8)] (zc6_faceBelow l D ad cy ((σ).1 8) σ _  h) gX6_printBelow_X6_faceBelow rfl ⟨rfl, rfl⟩ zdsC_yX6_faceBelow_v ⟨Nat.le_of_ble_eq_true rfl, Nat.le_of_ble_eq_true rfl⟩ (wC_at_1 ad cy σ) rfl rfl rfl rfl (Nat.le_of_ble_eq_true rfl) dX6_printBelow_37 (fun r8 h => ?_)
          obtain ⟨hin, h⟩ := h
          refine zz_iastore K 0 (σ2 := zz_A σ 16 (upd ((σ).2.1 16) v3.toNatClampNeg r8)) (wC_at_16 ad cy σ) (wC_set_16 ad cy σ _) rfl hin dX6_printBelow_40 ?_
          refine zz_nms (fun g9 eg9 => ?_)
          have h := h g9 eg9
          exact zu6_printBelow_41 K hret hB11 h
  exact key _ v3 σ (Nat.lt_succ_self _) h0
set_option maxHeartbeats 4000000 in
set_option maxRecDepth 100000 in
theorem zu6_printBelow_0 {p : Program} {l : Launch} {e : Env} {s : State} {m : MethodId} {args : Array Value} {below : List Frame} {meth : Method} {c : Code} {Q : State → Prop} {D : va_G} {A : Nat → Prop} {ad : Nat → Nat} {cy : Nat → ClassId}  {σ : zz_St} (K : zz_K p s m args c cX6_printBelow 4 RX6 wsX6_printBelow D (tysC cy) A (wC ad cy) nwC) {Qp : zz_St → Prop} (hret : ∀ (σ2 : zz_St), Qp σ2 → ∀ (pc : Nat) (lv : List (Nat × Value)), decode cX6_printBelow pc = .ok (.return_, 1) → zz_G p l e zrm6_printBelow s m args below meth c Q D A (wC ad cy) 4 pc lv [] σ2) (h : zq6_printBelow σ Qp) : zz_G p l e zrm6_printBelow s m args below meth c Q D A (wC ad cy) 4 0 [(0, .ref (ad 1))] [] σ := by
  unfold zq6_printBelow at h
  refine zz_aload_n K 0 dX6_printBelow_0 rfl rfl ?_
  refine zz_aload_n K 0 dX6_printBelow_1 rfl rfl ?_
  refine zg6_7_0 K zin_X6_printBelow_X6 zlk_X6_printBelow_1 dX6_printBelow_2 ?_
  refine zz_callVl1 K zz_nwC [.int ((σ).1 8)] (zc6_tilesUnder l D ad cy ((σ).1 8) σ _  h) gX6_printBelow_X6_tilesUnder rfl ⟨rfl, rfl⟩ zdsC_yX6_tilesUnder_v ⟨Nat.le_of_ble_eq_true rfl, Nat.le_of_ble_eq_true rfl⟩ (wC_at_1 ad cy σ) rfl rfl rfl rfl (Nat.le_of_ble_eq_true rfl) dX6_printBelow_5 (fun r10 h => ?_)
  refine zz_lstore_n K [(1, .long r10), (0, .ref (ad 1))] dX6_printBelow_8 rfl (by decide) rfl ?_
  refine zz_iconst K dX6_printBelow_9 zcCi_0 ?_
  refine zz_istore_n K [(3, .int (0 : Int32)), (1, .long r10), (0, .ref (ad 1))] dX6_printBelow_10 rfl (by decide) rfl ?_
  refine zz_sub [2, 1, 0] [(0, .ref (ad 1)), (1, .long r10), (3, .int (0 : Int32))] rfl ?_
  exact zu6_printBelow_11 K hret h
set_option maxRecDepth 100000 in
theorem zc6_printBelow (l : Launch) (D : va_G) (ad : Nat → Nat) (cy : Nat → ClassId)  (σ : zz_St) (Qp : zz_St → Prop) (h : zq6_printBelow σ Qp) : zz_Mv l yX6_printBelow wsX6_printBelow zrm6_printBelow D (tysC cy) (wC ad cy) nwC [.ref (ad 1)] σ Qp :=
  zz_Mv.of zz_nwC (wC_ad ad cy) (by decide +kernel) rfl ⟨rfl, rfl⟩ (Nat.le_of_ble_eq_true rfl) (fun p e s m args below meth c A QW K hret => zu6_printBelow_0 K  hret h)
theorem zin_X6_positionOf_X6 : ∀ w ∈ wsX60, w ∈ wsX6_positionOf := fun w h => List.mem_cons_of_mem _ (List.mem_append_left _ (List.mem_append_right _ h))
theorem zlk_X6_positionOf_1 : Cond.fieldLink RX6 41 "SolidsRolled$World" "state" "I" ∈ wsX6_positionOf := List.mem_of_getElem? (i := 1) rfl
theorem zdsC_yX6_stances_v : yX6_stances.cls = RX6 ∧ yX6_stances.cls ≠ "java/lang/invoke/MethodHandle" ∧ yX6_stances.cls ≠ "java/lang/invoke/VarHandle" ∧ (parseMethodDescriptor yX6_stances.desc).map (fun d => d.parameters.length) = some 0 := by decide +kernel
abbrev zrm6_positionOf : Room := { frames := 2, cells := 0, slots := 0, locals := 40 }
set_option maxHeartbeats 4000000 in
set_option maxRecDepth 100000 in
theorem zu6_positionOf_0 {p : Program} {l : Launch} {e : Env} {s : State} {m : MethodId} {args : Array Value} {below : List Frame} {meth : Method} {c : Code} {Q : State → Prop} {D : va_G} {A : Nat → Prop} {ad : Nat → Nat} {cy : Nat → ClassId} {v1 : Int32} {σ : zz_St} (K : zz_K p s m args c cX6_positionOf 2 RX6 wsX6_positionOf D (tysC cy) A (wC ad cy) nwC) {Qp : Int32 → Prop} (hret : ∀ (r : Int32), narrow .int (.int r) = .int r → Qp r → ∀ (pc : Nat) (lv : List (Nat × Value)), decode cX6_positionOf pc = .ok (.ireturn, 1) → zz_G p l e zrm6_positionOf s m args below meth c Q D A (wC ad cy) 2 pc lv [.int r] σ) (h : zq6_positionOf v1 σ Qp) : zz_G p l e zrm6_positionOf s m args below meth c Q D A (wC ad cy) 2 0 [(0, .ref (ad 1)), (1, .int v1)] [] σ := by
  unfold zq6_positionOf at h
  refine zz_aload_n K 0 dX6_positionOf_0 rfl rfl ?_
  refine zz_callVr1 K zz_nwC [] (zc6_stances l D ad cy  σ _  h) gX6_positionOf_X6_stances rfl ⟨rfl, rfl⟩ zdsC_yX6_stances_v ⟨Nat.le_of_ble_eq_true rfl, Nat.le_of_ble_eq_true rfl⟩ (wC_at_1 ad cy σ) rfl rfl rfl rfl (Nat.le_of_ble_eq_true rfl) dX6_positionOf_1 (fun r3 h => ?_)
  obtain ⟨hrr3, h⟩ := h
  refine zz_aload_n K 0 dX6_positionOf_4 rfl rfl ?_
  refine zg6_7_0 K zin_X6_positionOf_X6 zlk_X6_positionOf_1 dX6_positionOf_5 ?_
  refine zz_bipush K dX6_positionOf_8 zcCb_24 ?_
  refine zz_irem K (by decide : ¬ (24 : Int32) = 0) dX6_positionOf_10 ?_
  refine zz_iload_n K 1 dX6_positionOf_11 rfl rfl ?_
  refine zz_callVi1 K zz_nwC [.int (((σ).1 8) - ((σ).1 8) / (24 : Int32) * (24 : Int32)), .int v1] (zc5_positionOf l D ad cy (((σ).1 8) - ((σ).1 8) / (24 : Int32) * (24 : Int32)) v1 r3 σ _ hrr3 h) gX6_positionOf_X5_positionOf rfl ⟨rfl, rfl⟩ zdsC_yX5_positionOf_v ⟨Nat.le_of_ble_eq_true rfl, Nat.le_of_ble_eq_true rfl⟩ (wC_at_6_ ad cy σ _ hrr3) rfl rfl rfl rfl (Nat.le_of_ble_eq_true rfl) dX6_positionOf_12 (fun r4 h => ?_)
  exact hret _ rfl h _ _ dX6_positionOf_15
set_option maxRecDepth 100000 in
theorem zc6_positionOf (l : Launch) (D : va_G) (ad : Nat → Nat) (cy : Nat → ClassId) (v1 : Int32) (σ : zz_St) (Qp : Int32 → Prop) (h : zq6_positionOf v1 σ Qp) : zz_Mi l yX6_positionOf wsX6_positionOf zrm6_positionOf D (tysC cy) (wC ad cy) nwC [.ref (ad 1), .int v1] σ (fun r σ2 => σ2 = σ ∧ Qp r) :=
  zz_Mi.of zz_nwC (wC_ad ad cy) (by decide +kernel) rfl ⟨rfl, rfl⟩ (Nat.le_of_ble_eq_true rfl) (fun p e s m args below meth c A QW K hret => zu6_positionOf_0 K  (fun r hn hq pc lv hd => hret r σ hn ⟨rfl, hq⟩ pc lv hd) h)
theorem zin_X6_pointsUp_X6 : ∀ w ∈ wsX60, w ∈ wsX6_pointsUp := fun w h => List.mem_cons_of_mem _ (List.mem_append_right _ h)
theorem zlk_X6_pointsUp_1 : Cond.fieldLink RX6 35 "SolidsRolled$World" "columns" "I" ∈ wsX6_pointsUp := List.mem_of_getElem? (i := 1) rfl
abbrev zrm6_pointsUp : Room := { frames := 1, cells := 0, slots := 0, locals := 21 }
set_option maxHeartbeats 4000000 in
set_option maxRecDepth 100000 in
theorem zu6_pointsUp_0 {p : Program} {l : Launch} {e : Env} {s : State} {m : MethodId} {args : Array Value} {below : List Frame} {meth : Method} {c : Code} {Q : State → Prop} {D : va_G} {A : Nat → Prop} {ad : Nat → Nat} {cy : Nat → ClassId} {v1 : Int32} {σ : zz_St} (K : zz_K p s m args c cX6_pointsUp 5 RX6 wsX6_pointsUp D (tysC cy) A (wC ad cy) nwC) {Qp : Int32 → Prop} (hret : ∀ (r : Int32), narrow .boolean (.int r) = .int r → Qp r → ∀ (pc : Nat) (lv : List (Nat × Value)), decode cX6_pointsUp pc = .ok (.ireturn, 1) → zz_G p l e zrm6_pointsUp s m args below meth c Q D A (wC ad cy) 5 pc lv [.int r] σ) (h : zq6_pointsUp v1 σ Qp) : zz_G p l e zrm6_pointsUp s m args below meth c Q D A (wC ad cy) 5 0 [(0, .ref (ad 1)), (1, .int v1)] [] σ := by
  unfold zq6_pointsUp at h
  refine zz_iconst K dX6_pointsUp_0 zcCi_2 ?_
  refine zz_aload_n K 0 dX6_pointsUp_1 rfl rfl ?_
  refine zg6_5_0 K zin_X6_pointsUp_X6 zlk_X6_pointsUp_1 dX6_pointsUp_2 ?_
  refine zz_imul K dX6_pointsUp_5 ?_
  refine zz_nmi (fun x5 ex5 => ?_)
  have h := h x5 ex5
  refine zz_istore_n K [(2, .int x5), (0, .ref (ad 1)), (1, .int v1)] dX6_pointsUp_6 rfl (by decide) rfl ?_
  refine zz_iload_n K 2 dX6_pointsUp_7 rfl rfl ?_
  refine zz_iload_n K 0 dX6_pointsUp_8 rfl rfl ?_
  refine zz_callSi1 K zz_nwC [.int v1, .int x5] (zc6_rowOf l D ad cy v1 x5 σ _  h) gX6_pointsUp_X6_rowOf rfl ⟨rfl, rfl⟩ zdsC_yX6_rowOf_s ⟨Nat.le_of_ble_eq_true rfl, Nat.le_of_ble_eq_true rfl⟩ rfl rfl (Nat.le_of_ble_eq_true rfl) dX6_pointsUp_9 (fun r6 h => ?_)
  refine zz_istore_n K [(3, .int r6), (2, .int x5), (0, .ref (ad 1)), (1, .int v1)] dX6_pointsUp_12 rfl (by decide) rfl ?_
  refine zz_iload_n K 3 dX6_pointsUp_13 rfl rfl ?_
  refine zz_iload_n K 0 dX6_pointsUp_14 rfl rfl ?_
  refine zz_iload_n K 1 dX6_pointsUp_15 rfl rfl ?_
  refine zz_imul K dX6_pointsUp_16 ?_
  refine zz_isub K dX6_pointsUp_17 ?_
  refine zz_nmi (fun x7 ex7 => ?_)
  have h := h x7 ex7
  refine zz_istore K [(4, .int x7), (3, .int r6), (2, .int x5), (0, .ref (ad 1)), (1, .int v1)] dX6_pointsUp_18 (by decide) rfl ?_
  refine zz_iload_n K 1 dX6_pointsUp_20 rfl rfl ?_
  refine zz_iload K 0 dX6_pointsUp_21 rfl ?_
  refine zz_iadd K dX6_pointsUp_23 ?_
  refine zz_iconst K dX6_pointsUp_24 zcCi_2 ?_
  refine zz_irem K (by decide : ¬ (2 : Int32) = 0) dX6_pointsUp_25 ?_
  refine zz_if_ne K 33 dX6_pointsUp_26 rfl (fun c8 => ?_) (fun c8 => ?_)
  · have h := (And.left h) c8
    refine zz_iconst K dX6_pointsUp_33 zcCi_0 ?_
    exact hret _ rfl h _ _ dX6_pointsUp_34
  · have h := (And.right h) c8
    refine zz_iconst K dX6_pointsUp_29 zcCi_1 ?_
    refine zz_goto K 34 dX6_pointsUp_30 rfl ?_
    exact hret _ rfl h _ _ dX6_pointsUp_34
set_option maxRecDepth 100000 in
theorem zc6_pointsUp (l : Launch) (D : va_G) (ad : Nat → Nat) (cy : Nat → ClassId) (v1 : Int32) (σ : zz_St) (Qp : Int32 → Prop) (h : zq6_pointsUp v1 σ Qp) : zz_Mi l yX6_pointsUp wsX6_pointsUp zrm6_pointsUp D (tysC cy) (wC ad cy) nwC [.ref (ad 1), .int v1] σ (fun r σ2 => σ2 = σ ∧ Qp r) :=
  zz_Mi.of zz_nwC (wC_ad ad cy) (by decide +kernel) rfl ⟨rfl, rfl⟩ (Nat.le_of_ble_eq_true rfl) (fun p e s m args below meth c A QW K hret => zu6_pointsUp_0 K  (fun r hn hq pc lv hd => hret r σ hn ⟨rfl, hq⟩ pc lv hd) h)
theorem zin_X7_refuse_X7 : ∀ w ∈ wsX70, w ∈ wsX7_refuse := fun w h => List.mem_cons_of_mem _ (List.mem_append_right _ h)
theorem zlk_X7_refuse_1 : Cond.fieldLink RX7 72 "SolidsRolled" "refused" "[I" ∈ wsX7_refuse := List.mem_of_getElem? (i := 1) rfl
abbrev zrm7_refuse : Room := { frames := 0, cells := 0, slots := 0, locals := 0 }
set_option maxHeartbeats 4000000 in
set_option maxRecDepth 100000 in
theorem zu7_refuse_0 {p : Program} {l : Launch} {e : Env} {s : State} {m : MethodId} {args : Array Value} {below : List Frame} {meth : Method} {c : Code} {Q : State → Prop} {D : va_G} {A : Nat → Prop} {ad : Nat → Nat} {cy : Nat → ClassId} {v1 : Int32} {σ : zz_St} (K : zz_K p s m args c cX7_refuse 3 RX7 wsX7_refuse D (tysC cy) A (wC ad cy) nwC) {Qp : Int32 → zz_St → Prop} (hret : ∀ (r : Int32) (σ2 : zz_St), narrow .int (.int r) = .int r → Qp r σ2 → ∀ (pc : Nat) (lv : List (Nat × Value)), decode cX7_refuse pc = .ok (.ireturn, 1) → zz_G p l e zrm7_refuse s m args below meth c Q D A (wC ad cy) 3 pc lv [.int r] σ2) (h : zq7_refuse v1 σ Qp) : zz_G p l e zrm7_refuse s m args below meth c Q D A (wC ad cy) 3 0 [(0, .ref (ad 0)), (1, .int v1)] [] σ := by
  unfold zq7_refuse at h
  refine zz_iload_n K 1 dX7_refuse_0 rfl rfl ?_
  refine zz_ineg K dX7_refuse_1 ?_
  refine zz_nmi (fun x5 ex5 => ?_)
  have h := h x5 ex5
  refine zz_istore_n K [(2, .int x5), (0, .ref (ad 0)), (1, .int v1)] dX7_refuse_2 rfl (by decide) rfl ?_
  refine zz_iload_n K 0 dX7_refuse_3 rfl rfl ?_
  refine zz_if_lt K 26 dX7_refuse_4 rfl (fun c6 => ?_) (fun c6 => ?_)
  · have h := (And.left h) c6
    refine zz_iload_n K 2 dX7_refuse_26 rfl rfl ?_
    exact hret _ _ rfl h _ _ dX7_refuse_27
  · have h := (And.right h) c6
    refine zz_iload_n K 0 dX7_refuse_7 rfl rfl ?_
    refine zz_aload_n K 1 dX7_refuse_8 rfl rfl ?_
    refine zg7_8_0 K zin_X7_refuse_X7 zlk_X7_refuse_1 dX7_refuse_9 ?_
    refine zz_alen K 0 (wC_at_45 ad cy σ) rfl (v := (7 : Int32)) (show Int32.ofNat 7 = 7 from by decide) dX7_refuse_12 ?_
    refine zz_icmp_ge K 26 dX7_refuse_13 rfl (fun c7 => ?_) (fun c7 => ?_)
    · have h := (And.left h) c7
      refine zz_iload_n K 2 dX7_refuse_26 rfl rfl ?_
      exact hret _ _ rfl h _ _ dX7_refuse_27
    · have h := (And.right h) c7
      refine zz_aload_n K 1 dX7_refuse_16 rfl rfl ?_
      refine zg7_8_0 K zin_X7_refuse_X7 zlk_X7_refuse_1 dX7_refuse_17 ?_
      refine zz_iload_n K 0 dX7_refuse_20 rfl rfl ?_
      refine zz_dup2 K rfl rfl dX7_refuse_21 ?_
      obtain ⟨hin, h⟩ := h
      refine zz_iaload K 0 (wC_at_45 ad cy σ) rfl hin dX7_refuse_22 ?_
      refine zz_iconst K dX7_refuse_23 zcCi_1 ?_
      refine zz_iadd K dX7_refuse_24 ?_
      obtain ⟨hin, h⟩ := h
      refine zz_iastore K 0 (σ2 := zz_A σ 45 (upd ((σ).2.1 45) x5.toNatClampNeg (((σ).2.1 45 x5.toNatClampNeg) + (1 : Int32)))) (wC_at_45 ad cy σ) (wC_set_45 ad cy σ _) rfl hin dX7_refuse_25 ?_
      refine zz_nms (fun g8 eg8 => ?_)
      have h := h g8 eg8
      refine zz_iload_n K 2 dX7_refuse_26 rfl rfl ?_
      exact hret _ _ rfl h _ _ dX7_refuse_27
set_option maxRecDepth 100000 in
theorem zc7_refuse (l : Launch) (D : va_G) (ad : Nat → Nat) (cy : Nat → ClassId) (v1 : Int32) (σ : zz_St) (Qp : Int32 → zz_St → Prop) (h : zq7_refuse v1 σ Qp) : zz_Mi l yX7_refuse wsX7_refuse zrm7_refuse D (tysC cy) (wC ad cy) nwC [.ref (ad 0), .int v1] σ Qp :=
  zz_Mi.of zz_nwC (wC_ad ad cy) (by decide +kernel) rfl ⟨rfl, rfl⟩ (Nat.le_of_ble_eq_true rfl) (fun p e s m args below meth c A QW K hret => zu7_refuse_0 K  hret h)
theorem zcCs_255 : (Int16.ofInt (255)).toInt32 = (255 : Int32) := by decide
theorem zin_X7_letter_X7 : ∀ w ∈ wsX70, w ∈ wsX7_letter := fun w h => List.mem_cons_of_mem _ (List.mem_append_left _ (List.mem_append_right _ h))
theorem zlk_X7_letter_1 : Cond.fieldLink RX7 40 "SolidsRolled" "letters" "LSolidsRolled$Letters;" ∈ wsX7_letter := List.mem_of_getElem? (i := 1) rfl
theorem zin_X7_letter_X1 : ∀ w ∈ wsX10, w ∈ wsX7_letter := fun w h => List.mem_cons_of_mem _ (List.mem_append_right _ h)
theorem zlk_X7_letter_2 : Cond.fieldLink RX7 87 "SolidsRolled$Letters" "size" "I" ∈ wsX7_letter := List.mem_of_getElem? (i := 2) rfl
theorem zcCb_m4 : (Int8.ofInt (-4)).toInt32 = (-4 : Int32) := by decide
theorem zcCb_m6 : (Int8.ofInt (-6)).toInt32 = (-6 : Int32) := by decide
theorem zdsC_yX7_refuse_v : yX7_refuse.cls = RX7 ∧ yX7_refuse.cls ≠ "java/lang/invoke/MethodHandle" ∧ yX7_refuse.cls ≠ "java/lang/invoke/VarHandle" ∧ (parseMethodDescriptor yX7_refuse.desc).map (fun d => d.parameters.length) = some 1 := by decide +kernel
theorem zdsC_yX1_append_v : yX1_append.cls = RX1 ∧ yX1_append.cls ≠ "java/lang/invoke/MethodHandle" ∧ yX1_append.cls ≠ "java/lang/invoke/VarHandle" ∧ (parseMethodDescriptor yX1_append.desc).map (fun d => d.parameters.length) = some 1 := by decide +kernel
theorem zdsC_yX1_isFull_v : yX1_isFull.cls = RX1 ∧ yX1_isFull.cls ≠ "java/lang/invoke/MethodHandle" ∧ yX1_isFull.cls ≠ "java/lang/invoke/VarHandle" ∧ (parseMethodDescriptor yX1_isFull.desc).map (fun d => d.parameters.length) = some 0 := by decide +kernel
abbrev zrm7_letter : Room := { frames := 1, cells := 0, slots := 0, locals := 22 }
set_option maxHeartbeats 4000000 in
set_option maxRecDepth 100000 in
theorem zu7_letter_28 {p : Program} {l : Launch} {e : Env} {s : State} {m : MethodId} {args : Array Value} {below : List Frame} {meth : Method} {c : Code} {Q : State → Prop} {D : va_G} {A : Nat → Prop} {ad : Nat → Nat} {cy : Nat → ClassId}  {σ : zz_St} (K : zz_K p s m args c cX7_letter 2 RX7 wsX7_letter D (tysC cy) A (wC ad cy) nwC) {Qp : Int32 → zz_St → Prop} (hret : ∀ (r : Int32) (σ2 : zz_St), narrow .int (.int r) = .int r → Qp r σ2 → ∀ (pc : Nat) (lv : List (Nat × Value)), decode cX7_letter pc = .ok (.ireturn, 1) → zz_G p l e zrm7_letter s m args below meth c Q D A (wC ad cy) 2 pc lv [.int r] σ2) (h : zq7_letter_28 σ Qp) : zz_G p l e zrm7_letter s m args below meth c Q D A (wC ad cy) 2 28 [(0, .ref (ad 0))] [] σ := by
  unfold zq7_letter_28 at h
  refine zz_aload_n K 0 dX7_letter_28 rfl rfl ?_
  refine zz_bipush K dX7_letter_29 zcCb_m6 ?_
  refine zz_callVi K zz_nwC [.int (-6 : Int32)] (zc7_refuse l D ad cy (-6 : Int32) σ _  h) gX7_letter_X7_refuse rfl ⟨rfl, rfl⟩ zdsC_yX7_refuse_v ⟨Nat.le_of_ble_eq_true rfl, Nat.le_of_ble_eq_true rfl⟩ (wC_at_0 ad cy σ) rfl rfl rfl rfl (Nat.le_of_ble_eq_true rfl) dX7_letter_31 (fun r10 g11 h => ?_)
  exact hret _ _ rfl h _ _ dX7_letter_34
set_option maxHeartbeats 4000000 in
set_option maxRecDepth 100000 in
theorem zu7_letter_0 {p : Program} {l : Launch} {e : Env} {s : State} {m : MethodId} {args : Array Value} {below : List Frame} {meth : Method} {c : Code} {Q : State → Prop} {D : va_G} {A : Nat → Prop} {ad : Nat → Nat} {cy : Nat → ClassId} {v1 : Int32} {σ : zz_St} (K : zz_K p s m args c cX7_letter 2 RX7 wsX7_letter D (tysC cy) A (wC ad cy) nwC) {Qp : Int32 → zz_St → Prop} (hret : ∀ (r : Int32) (σ2 : zz_St), narrow .int (.int r) = .int r → Qp r σ2 → ∀ (pc : Nat) (lv : List (Nat × Value)), decode cX7_letter pc = .ok (.ireturn, 1) → zz_G p l e zrm7_letter s m args below meth c Q D A (wC ad cy) 2 pc lv [.int r] σ2) (h : zq7_letter v1 σ Qp) : zz_G p l e zrm7_letter s m args below meth c Q D A (wC ad cy) 2 0 [(0, .ref (ad 0)), (1, .int v1)] [] σ := by
  unfold zq7_letter at h
  refine zz_iload_n K 1 dX7_letter_0 rfl rfl ?_
  refine zz_if_ge K 11 dX7_letter_1 rfl (fun c12 => ?_) (fun c12 => ?_)
  · have h := (And.left h) c12
    refine zz_iload_n K 1 dX7_letter_11 rfl rfl ?_
    refine zz_sipush K dX7_letter_12 zcCs_255 ?_
    refine zz_icmp_gt K 28 dX7_letter_15 rfl (fun c13 => ?_) (fun c13 => ?_)
    · have h := (And.left h) c13
      refine zz_sub [0] [(0, .ref (ad 0))] rfl ?_
      exact zu7_letter_28 K hret h
    · have h := (And.right h) c13
      refine zz_aload_n K 0 dX7_letter_18 rfl rfl ?_
      refine zg7_3_0 K zin_X7_letter_X7 zlk_X7_letter_1 dX7_letter_19 ?_
      refine zz_callVi1 K zz_nwC [] (zc1_isFull l D ad cy  σ _  h) gX7_letter_X1_isFull rfl ⟨rfl, rfl⟩ zdsC_yX1_isFull_v ⟨Nat.le_of_ble_eq_true rfl, Nat.le_of_ble_eq_true rfl⟩ (wC_at_3 ad cy σ) rfl rfl rfl rfl (Nat.le_of_ble_eq_true rfl) dX7_letter_22 (fun r14 h => ?_)
      refine zz_if_eq K 35 dX7_letter_25 rfl (fun c15 => ?_) (fun c15 => ?_)
      · have h := (And.left h) c15
        refine zz_aload_n K 0 dX7_letter_35 rfl rfl ?_
        refine zg7_3_0 K zin_X7_letter_X7 zlk_X7_letter_1 dX7_letter_36 ?_
        refine zz_iload_n K 1 dX7_letter_39 rfl rfl ?_
        refine zz_callVv K zz_nwC [.int v1] (zc1_append l D ad cy v1 σ _  h) gX7_letter_X1_append rfl ⟨rfl, rfl⟩ zdsC_yX1_append_v ⟨Nat.le_of_ble_eq_true rfl, Nat.le_of_ble_eq_true rfl⟩ (wC_at_3 ad cy σ) rfl rfl rfl rfl (Nat.le_of_ble_eq_true rfl) dX7_letter_40 (fun g16 h => ?_)
        refine zz_aload_n K 0 dX7_letter_43 rfl rfl ?_
        refine zg7_3_0 K zin_X7_letter_X7 zlk_X7_letter_1 dX7_letter_44 ?_
        refine zg1_1_0 K zin_X7_letter_X1 zlk_X7_letter_2 dX7_letter_47 ?_
        exact hret _ _ rfl h _ _ dX7_letter_50
      · have h := (And.right h) c15
        refine zz_sub [0] [(0, .ref (ad 0))] rfl ?_
        exact zu7_letter_28 K hret h
  · have h := (And.right h) c12
    refine zz_aload_n K 0 dX7_letter_4 rfl rfl ?_
    refine zz_bipush K dX7_letter_5 zcCb_m4 ?_
    refine zz_callVi K zz_nwC [.int (-4 : Int32)] (zc7_refuse l D ad cy (-4 : Int32) σ _  h) gX7_letter_X7_refuse rfl ⟨rfl, rfl⟩ zdsC_yX7_refuse_v ⟨Nat.le_of_ble_eq_true rfl, Nat.le_of_ble_eq_true rfl⟩ (wC_at_0 ad cy σ) rfl rfl rfl rfl (Nat.le_of_ble_eq_true rfl) dX7_letter_7 (fun r17 g18 h => ?_)
    exact hret _ _ rfl h _ _ dX7_letter_10
set_option maxRecDepth 100000 in
theorem zc7_letter (l : Launch) (D : va_G) (ad : Nat → Nat) (cy : Nat → ClassId) (v1 : Int32) (σ : zz_St) (Qp : Int32 → zz_St → Prop) (h : zq7_letter v1 σ Qp) : zz_Mi l yX7_letter wsX7_letter zrm7_letter D (tysC cy) (wC ad cy) nwC [.ref (ad 0), .int v1] σ Qp :=
  zz_Mi.of zz_nwC (wC_ad ad cy) (by decide +kernel) rfl ⟨rfl, rfl⟩ (Nat.le_of_ble_eq_true rfl) (fun p e s m args below meth c A QW K hret => zu7_letter_0 K  hret h)
theorem zin_X7_board_X7 : ∀ w ∈ wsX70, w ∈ wsX7_board := fun w h => List.mem_cons_of_mem _ (List.mem_append_left _ (List.mem_append_left _ (List.mem_append_left _ (List.mem_append_right _ h))))
theorem zlk_X7_board_1 : Cond.fieldLink RX7 40 "SolidsRolled" "letters" "LSolidsRolled$Letters;" ∈ wsX7_board := List.mem_of_getElem? (i := 1) rfl
theorem zlk_X7_board_2 : Cond.fieldLink RX7 26 "SolidsRolled" "world" "LSolidsRolled$World;" ∈ wsX7_board := List.mem_of_getElem? (i := 2) rfl
theorem zlk_X7_board_3 : Cond.fieldLink RX7 54 "SolidsRolled" "history" "LSolidsRolled$History;" ∈ wsX7_board := List.mem_of_getElem? (i := 3) rfl
theorem zcCs_m1000 : (Int16.ofInt (-1000)).toInt32 = (-1000 : Int32) := by decide
theorem zdsC_yX1_clear_v : yX1_clear.cls = RX1 ∧ yX1_clear.cls ≠ "java/lang/invoke/MethodHandle" ∧ yX1_clear.cls ≠ "java/lang/invoke/VarHandle" ∧ (parseMethodDescriptor yX1_clear.desc).map (fun d => d.parameters.length) = some 0 := by decide +kernel
theorem zdsC_yX0_forget_v : yX0_forget.cls = RX0 ∧ yX0_forget.cls ≠ "java/lang/invoke/MethodHandle" ∧ yX0_forget.cls ≠ "java/lang/invoke/VarHandle" ∧ (parseMethodDescriptor yX0_forget.desc).map (fun d => d.parameters.length) = some 0 := by decide +kernel
theorem zdsC_yX6_readBoard_v : yX6_readBoard.cls = RX6 ∧ yX6_readBoard.cls ≠ "java/lang/invoke/MethodHandle" ∧ yX6_readBoard.cls ≠ "java/lang/invoke/VarHandle" ∧ (parseMethodDescriptor yX6_readBoard.desc).map (fun d => d.parameters.length) = some 1 := by decide +kernel
theorem zdsC_yX1_boardFault_v : yX1_boardFault.cls = RX1 ∧ yX1_boardFault.cls ≠ "java/lang/invoke/MethodHandle" ∧ yX1_boardFault.cls ≠ "java/lang/invoke/VarHandle" ∧ (parseMethodDescriptor yX1_boardFault.desc).map (fun d => d.parameters.length) = some 0 := by decide +kernel
abbrev zrm7_board : Room := { frames := 3, cells := 0, slots := 0, locals := 69 }
set_option maxHeartbeats 4000000 in
set_option maxRecDepth 100000 in
theorem zu7_board_30 {p : Program} {l : Launch} {e : Env} {s : State} {m : MethodId} {args : Array Value} {below : List Frame} {meth : Method} {c : Code} {Q : State → Prop} {D : va_G} {A : Nat → Prop} {ad : Nat → Nat} {cy : Nat → ClassId} {v1 : Int32} {σ : zz_St} (K : zz_K p s m args c cX7_board 2 RX7 wsX7_board D (tysC cy) A (wC ad cy) nwC) {Qp : Int32 → zz_St → Prop} (hret : ∀ (r : Int32) (σ2 : zz_St), narrow .int (.int r) = .int r → Qp r σ2 → ∀ (pc : Nat) (lv : List (Nat × Value)), decode cX7_board pc = .ok (.ireturn, 1) → zz_G p l e zrm7_board s m args below meth c Q D A (wC ad cy) 2 pc lv [.int r] σ2) (h : zq7_board_30 v1 σ Qp) : zz_G p l e zrm7_board s m args below meth c Q D A (wC ad cy) 2 30 [(0, .ref (ad 0)), (1, .int v1)] [] σ := by
  unfold zq7_board_30 at h
  refine zz_aload_n K 0 dX7_board_30 rfl rfl ?_
  refine zg7_3_0 K zin_X7_board_X7 zlk_X7_board_1 dX7_board_31 ?_
  refine zz_callVv K zz_nwC [] (zc1_clear l D ad cy  σ _  h) gX7_board_X1_clear rfl ⟨rfl, rfl⟩ zdsC_yX1_clear_v ⟨Nat.le_of_ble_eq_true rfl, Nat.le_of_ble_eq_true rfl⟩ (wC_at_3 ad cy σ) rfl rfl rfl rfl (Nat.le_of_ble_eq_true rfl) dX7_board_34 (fun g8 h => ?_)
  refine zz_iload_n K 1 dX7_board_37 rfl rfl ?_
  refine zz_if_ge K 51 dX7_board_38 rfl (fun c9 => ?_) (fun c9 => ?_)
  · have h := (And.left h) c9
    refine zz_sipush K dX7_board_51 zcCs_m1000 ?_
    refine zz_iload_n K 1 dX7_board_54 rfl rfl ?_
    refine zz_isub K dX7_board_55 ?_
    exact hret _ _ rfl h _ _ dX7_board_56
  · have h := (And.right h) c9
    refine zz_aload_n K 0 dX7_board_41 rfl rfl ?_
    refine zg7_0_0 K zin_X7_board_X7 zlk_X7_board_2 dX7_board_42 ?_
    refine zz_callVi1 K zz_nwC [] (zc6_tileCount l D ad cy  g8 _  h) gX7_board_X6_tileCount rfl ⟨rfl, rfl⟩ zdsC_yX6_tileCount_v ⟨Nat.le_of_ble_eq_true rfl, Nat.le_of_ble_eq_true rfl⟩ (wC_at_1 ad cy g8) rfl rfl rfl rfl (Nat.le_of_ble_eq_true rfl) dX7_board_45 (fun r10 h => ?_)
    refine zz_goto K 56 dX7_board_48 rfl ?_
    exact hret _ _ rfl h _ _ dX7_board_56
set_option maxHeartbeats 4000000 in
set_option maxRecDepth 100000 in
theorem zu7_board_0 {p : Program} {l : Launch} {e : Env} {s : State} {m : MethodId} {args : Array Value} {below : List Frame} {meth : Method} {c : Code} {Q : State → Prop} {D : va_G} {A : Nat → Prop} {ad : Nat → Nat} {cy : Nat → ClassId}  {σ : zz_St} (K : zz_K p s m args c cX7_board 2 RX7 wsX7_board D (tysC cy) A (wC ad cy) nwC) {Qp : Int32 → zz_St → Prop} (hret : ∀ (r : Int32) (σ2 : zz_St), narrow .int (.int r) = .int r → Qp r σ2 → ∀ (pc : Nat) (lv : List (Nat × Value)), decode cX7_board pc = .ok (.ireturn, 1) → zz_G p l e zrm7_board s m args below meth c Q D A (wC ad cy) 2 pc lv [.int r] σ2) (h : zq7_board σ Qp) : zz_G p l e zrm7_board s m args below meth c Q D A (wC ad cy) 2 0 [(0, .ref (ad 0))] [] σ := by
  unfold zq7_board at h
  refine zz_aload_n K 0 dX7_board_0 rfl rfl ?_
  refine zg7_3_0 K zin_X7_board_X7 zlk_X7_board_1 dX7_board_1 ?_
  refine zz_callVi1 K zz_nwC [] (zc1_boardFault l D ad cy  σ _  h) gX7_board_X1_boardFault rfl ⟨rfl, rfl⟩ zdsC_yX1_boardFault_v ⟨Nat.le_of_ble_eq_true rfl, Nat.le_of_ble_eq_true rfl⟩ (wC_at_3 ad cy σ) rfl rfl rfl rfl (Nat.le_of_ble_eq_true rfl) dX7_board_4 (fun r11 h => ?_)
  refine zz_istore_n K [(1, .int r11), (0, .ref (ad 0))] dX7_board_7 rfl (by decide) rfl ?_
  refine zz_iload_n K 0 dX7_board_8 rfl rfl ?_
  refine zz_if_ge K 30 dX7_board_9 rfl (fun c12 => ?_) (fun c12 => ?_)
  · have h := (And.left h) c12
    refine zz_sub [1, 0] [(0, .ref (ad 0)), (1, .int r11)] rfl ?_
    exact zu7_board_30 K hret h
  · have h := (And.right h) c12
    refine zz_aload_n K 1 dX7_board_12 rfl rfl ?_
    refine zg7_0_0 K zin_X7_board_X7 zlk_X7_board_2 dX7_board_13 ?_
    refine zz_aload_n K 1 dX7_board_16 rfl rfl ?_
    refine zg7_3_0 K zin_X7_board_X7 zlk_X7_board_1 dX7_board_17 ?_
    refine zz_callVv K zz_nwC [.ref (ad 3)] (zc6_readBoard l D ad cy  σ _  h) gX7_board_X6_readBoard rfl ⟨rfl, rfl⟩ zdsC_yX6_readBoard_v ⟨Nat.le_of_ble_eq_true rfl, Nat.le_of_ble_eq_true rfl⟩ (wC_at_1 ad cy σ) rfl rfl rfl rfl (Nat.le_of_ble_eq_true rfl) dX7_board_20 (fun g13 h => ?_)
    refine zz_aload_n K 1 dX7_board_23 rfl rfl ?_
    refine zg7_5_0 K zin_X7_board_X7 zlk_X7_board_3 dX7_board_24 ?_
    refine zz_callVv K zz_nwC [] (zc0_forget l D ad cy  g13 _  h) gX7_board_X0_forget rfl ⟨rfl, rfl⟩ zdsC_yX0_forget_v ⟨Nat.le_of_ble_eq_true rfl, Nat.le_of_ble_eq_true rfl⟩ (wC_at_5 ad cy g13) rfl rfl rfl rfl (Nat.le_of_ble_eq_true rfl) dX7_board_27 (fun g14 h => ?_)
    refine zz_sub [1, 0] [(0, .ref (ad 0)), (1, .int r11)] rfl ?_
    exact zu7_board_30 K hret h
set_option maxRecDepth 100000 in
theorem zc7_board (l : Launch) (D : va_G) (ad : Nat → Nat) (cy : Nat → ClassId)  (σ : zz_St) (Qp : Int32 → zz_St → Prop) (h : zq7_board σ Qp) : zz_Mi l yX7_board wsX7_board zrm7_board D (tysC cy) (wC ad cy) nwC [.ref (ad 0)] σ Qp :=
  zz_Mi.of zz_nwC (wC_ad ad cy) (by decide +kernel) rfl ⟨rfl, rfl⟩ (Nat.le_of_ble_eq_true rfl) (fun p e s m args below meth c A QW K hret => zu7_board_0 K  hret h)
theorem zin_X7_tile_X7 : ∀ w ∈ wsX70, w ∈ wsX7_tile := fun w h => List.mem_cons_of_mem _ (List.mem_append_left _ (List.mem_append_left _ (List.mem_append_right _ h)))
theorem zlk_X7_tile_1 : Cond.fieldLink RX7 26 "SolidsRolled" "world" "LSolidsRolled$World;" ∈ wsX7_tile := List.mem_of_getElem? (i := 1) rfl
theorem zcCb_m3 : (Int8.ofInt (-3)).toInt32 = (-3 : Int32) := by decide
theorem zin_X7_tile_X6 : ∀ w ∈ wsX60, w ∈ wsX7_tile := fun w h => List.mem_cons_of_mem _ (List.mem_append_left _ (List.mem_append_right _ h))
theorem zlk_X7_tile_2 : Cond.fieldLink RX7 118 "SolidsRolled$World" "tiles" "[I" ∈ wsX7_tile := List.mem_of_getElem? (i := 2) rfl
theorem zcCb_m2 : (Int8.ofInt (-2)).toInt32 = (-2 : Int32) := by decide
theorem zdsC_yX6_wouldBar_v : yX6_wouldBar.cls = RX6 ∧ yX6_wouldBar.cls ≠ "java/lang/invoke/MethodHandle" ∧ yX6_wouldBar.cls ≠ "java/lang/invoke/VarHandle" ∧ (parseMethodDescriptor yX6_wouldBar.desc).map (fun d => d.parameters.length) = some 1 := by decide +kernel
theorem zdsC_yX6_isOn_v : yX6_isOn.cls = RX6 ∧ yX6_isOn.cls ≠ "java/lang/invoke/MethodHandle" ∧ yX6_isOn.cls ≠ "java/lang/invoke/VarHandle" ∧ (parseMethodDescriptor yX6_isOn.desc).map (fun d => d.parameters.length) = some 1 := by decide +kernel
theorem zdsC_yX6_hasTile_v : yX6_hasTile.cls = RX6 ∧ yX6_hasTile.cls ≠ "java/lang/invoke/MethodHandle" ∧ yX6_hasTile.cls ≠ "java/lang/invoke/VarHandle" ∧ (parseMethodDescriptor yX6_hasTile.desc).map (fun d => d.parameters.length) = some 1 := by decide +kernel
abbrev zrm7_tile : Room := { frames := 4, cells := 0, slots := 0, locals := 86 }
set_option maxHeartbeats 4000000 in
set_option maxRecDepth 100000 in
theorem zu7_tile_26 {p : Program} {l : Launch} {e : Env} {s : State} {m : MethodId} {args : Array Value} {below : List Frame} {meth : Method} {c : Code} {Q : State → Prop} {D : va_G} {A : Nat → Prop} {ad : Nat → Nat} {cy : Nat → ClassId}  {σ : zz_St} (K : zz_K p s m args c cX7_tile 4 RX7 wsX7_tile D (tysC cy) A (wC ad cy) nwC) {Qp : Int32 → zz_St → Prop} (hret : ∀ (r : Int32) (σ2 : zz_St), narrow .int (.int r) = .int r → Qp r σ2 → ∀ (pc : Nat) (lv : List (Nat × Value)), decode cX7_tile pc = .ok (.ireturn, 1) → zz_G p l e zrm7_tile s m args below meth c Q D A (wC ad cy) 4 pc lv [.int r] σ2) (h : zq7_tile_26 σ Qp) : zz_G p l e zrm7_tile s m args below meth c Q D A (wC ad cy) 4 26 [(0, .ref (ad 0))] [] σ := by
  unfold zq7_tile_26 at h
  refine zz_aload_n K 0 dX7_tile_26 rfl rfl ?_
  refine zz_bipush K dX7_tile_27 zcCb_m2 ?_
  refine zz_callVi K zz_nwC [.int (-2 : Int32)] (zc7_refuse l D ad cy (-2 : Int32) σ _  h) gX7_tile_X7_refuse rfl ⟨rfl, rfl⟩ zdsC_yX7_refuse_v ⟨Nat.le_of_ble_eq_true rfl, Nat.le_of_ble_eq_true rfl⟩ (wC_at_0 ad cy σ) rfl rfl rfl rfl (Nat.le_of_ble_eq_true rfl) dX7_tile_29 (fun r17 g18 h => ?_)
  exact hret _ _ rfl h _ _ dX7_tile_32
set_option maxHeartbeats 4000000 in
set_option maxRecDepth 100000 in
theorem zu7_tile_62 {p : Program} {l : Launch} {e : Env} {s : State} {m : MethodId} {args : Array Value} {below : List Frame} {meth : Method} {c : Code} {Q : State → Prop} {D : va_G} {A : Nat → Prop} {ad : Nat → Nat} {cy : Nat → ClassId} {v1 : Int32} {v2 : Int32} {σ : zz_St} (K : zz_K p s m args c cX7_tile 4 RX7 wsX7_tile D (tysC cy) A (wC ad cy) nwC) {Qp : Int32 → zz_St → Prop} (hret : ∀ (r : Int32) (σ2 : zz_St), narrow .int (.int r) = .int r → Qp r σ2 → ∀ (pc : Nat) (lv : List (Nat × Value)), decode cX7_tile pc = .ok (.ireturn, 1) → zz_G p l e zrm7_tile s m args below meth c Q D A (wC ad cy) 4 pc lv [.int r] σ2) (h : zq7_tile_62 v1 v2 σ Qp) : zz_G p l e zrm7_tile s m args below meth c Q D A (wC ad cy) 4 62 [(0, .ref (ad 0)), (1, .int v1), (2, .int v2)] [] σ := by
  unfold zq7_tile_62 at h
  refine zz_aload_n K 0 dX7_tile_62 rfl rfl ?_
  refine zg7_0_0 K zin_X7_tile_X7 zlk_X7_tile_1 dX7_tile_63 ?_
  refine zg6_2_0 K zin_X7_tile_X6 zlk_X7_tile_2 dX7_tile_66 ?_
  refine zz_iload_n K 1 dX7_tile_69 rfl rfl ?_
  obtain ⟨hin, h⟩ := h
  refine zz_iaload K 0 (wC_at_14 ad cy σ) rfl hin dX7_tile_70 ?_
  refine zz_nmi (fun x19 ex19 => ?_)
  have h := h x19 ex19
  refine zz_istore_n K [(3, .int x19), (0, .ref (ad 0)), (1, .int v1), (2, .int v2)] dX7_tile_71 rfl (by decide) rfl ?_
  refine zz_aload_n K 1 dX7_tile_72 rfl rfl ?_
  refine zg7_0_0 K zin_X7_tile_X7 zlk_X7_tile_1 dX7_tile_73 ?_
  refine zg6_2_0 K zin_X7_tile_X6 zlk_X7_tile_2 dX7_tile_76 ?_
  refine zz_iload_n K 2 dX7_tile_79 rfl rfl ?_
  refine zz_iload_n K 3 dX7_tile_80 rfl rfl ?_
  obtain ⟨hin, h⟩ := h
  refine zz_iastore K 0 (σ2 := zz_A σ 14 (upd ((σ).2.1 14) v1.toNatClampNeg v2)) (wC_at_14 ad cy σ) (wC_set_14 ad cy σ _) rfl hin dX7_tile_81 ?_
  refine zz_nms (fun g20 eg20 => ?_)
  have h := h g20 eg20
  refine zz_iload_n K 0 dX7_tile_82 rfl rfl ?_
  exact hret _ _ rfl h _ _ dX7_tile_83
set_option maxHeartbeats 4000000 in
set_option maxRecDepth 100000 in
theorem zu7_tile_0 {p : Program} {l : Launch} {e : Env} {s : State} {m : MethodId} {args : Array Value} {below : List Frame} {meth : Method} {c : Code} {Q : State → Prop} {D : va_G} {A : Nat → Prop} {ad : Nat → Nat} {cy : Nat → ClassId} {v1 : Int32} {v2 : Int32} {σ : zz_St} (K : zz_K p s m args c cX7_tile 4 RX7 wsX7_tile D (tysC cy) A (wC ad cy) nwC) {Qp : Int32 → zz_St → Prop} (hret : ∀ (r : Int32) (σ2 : zz_St), narrow .int (.int r) = .int r → Qp r σ2 → ∀ (pc : Nat) (lv : List (Nat × Value)), decode cX7_tile pc = .ok (.ireturn, 1) → zz_G p l e zrm7_tile s m args below meth c Q D A (wC ad cy) 4 pc lv [.int r] σ2) (h : zq7_tile v1 v2 σ Qp) : zz_G p l e zrm7_tile s m args below meth c Q D A (wC ad cy) 4 0 [(0, .ref (ad 0)), (1, .int v1), (2, .int v2)] [] σ := by
  unfold zq7_tile at h
  refine zz_aload_n K 0 dX7_tile_0 rfl rfl ?_
  refine zg7_0_0 K zin_X7_tile_X7 zlk_X7_tile_1 dX7_tile_1 ?_
  refine zz_iload_n K 1 dX7_tile_4 rfl rfl ?_
  refine zz_callVi1 K zz_nwC [.int v1] (zc6_hasTile l D ad cy v1 σ _  h) gX7_tile_X6_hasTile rfl ⟨rfl, rfl⟩ zdsC_yX6_hasTile_v ⟨Nat.le_of_ble_eq_true rfl, Nat.le_of_ble_eq_true rfl⟩ (wC_at_1 ad cy σ) rfl rfl rfl rfl (Nat.le_of_ble_eq_true rfl) dX7_tile_5 (fun r21 h => ?_)
  refine zz_if_ne K 17 dX7_tile_8 rfl (fun c22 => ?_) (fun c22 => ?_)
  · have h := (And.left h) c22
    refine zz_iload_n K 2 dX7_tile_17 rfl rfl ?_
    refine zz_if_lt K 26 dX7_tile_18 rfl (fun c23 => ?_) (fun c23 => ?_)
    · have h := (And.left h) c23
      refine zz_sub [0] [(0, .ref (ad 0))] rfl ?_
      exact zu7_tile_26 K hret h
    · have h := (And.right h) c23
      refine zz_iload_n K 2 dX7_tile_21 rfl rfl ?_
      refine zz_iconst K dX7_tile_22 zcCi_2 ?_
      refine zz_icmp_le K 33 dX7_tile_23 rfl (fun c24 => ?_) (fun c24 => ?_)
      · have h := (And.left h) c24
        refine zz_aload_n K 0 dX7_tile_33 rfl rfl ?_
        refine zg7_0_0 K zin_X7_tile_X7 zlk_X7_tile_1 dX7_tile_34 ?_
        refine zz_iload_n K 1 dX7_tile_37 rfl rfl ?_
        refine zz_callVi1 K zz_nwC [.int v1] (zc6_isOn l D ad cy v1 σ _  h) gX7_tile_X6_isOn rfl ⟨rfl, rfl⟩ zdsC_yX6_isOn_v ⟨Nat.le_of_ble_eq_true rfl, Nat.le_of_ble_eq_true rfl⟩ (wC_at_1 ad cy σ) rfl rfl rfl rfl (Nat.le_of_ble_eq_true rfl) dX7_tile_38 (fun r25 h => ?_)
        refine zz_if_eq K 62 dX7_tile_41 rfl (fun c26 => ?_) (fun c26 => ?_)
        · have h := (And.left h) c26
          exact zu7_tile_62 K hret h
        · have h := (And.right h) c26
          refine zz_aload_n K 0 dX7_tile_44 rfl rfl ?_
          refine zg7_0_0 K zin_X7_tile_X7 zlk_X7_tile_1 dX7_tile_45 ?_
          refine zz_iload_n K 2 dX7_tile_48 rfl rfl ?_
          refine zz_callVi1 K zz_nwC [.int v2] (zc6_wouldBar l D ad cy v2 σ _  h) gX7_tile_X6_wouldBar rfl ⟨rfl, rfl⟩ zdsC_yX6_wouldBar_v ⟨Nat.le_of_ble_eq_true rfl, Nat.le_of_ble_eq_true rfl⟩ (wC_at_1 ad cy σ) rfl rfl rfl rfl (Nat.le_of_ble_eq_true rfl) dX7_tile_49 (fun r27 h => ?_)
          refine zz_if_eq K 62 dX7_tile_52 rfl (fun c28 => ?_) (fun c28 => ?_)
          · have h := (And.left h) c28
            exact zu7_tile_62 K hret h
          · have h := (And.right h) c28
            refine zz_aload_n K 0 dX7_tile_55 rfl rfl ?_
            refine zz_bipush K dX7_tile_56 zcCb_m3 ?_
            refine zz_callVi K zz_nwC [.int (-3 : Int32)] (zc7_refuse l D ad cy (-3 : Int32) σ _  h) gX7_tile_X7_refuse rfl ⟨rfl, rfl⟩ zdsC_yX7_refuse_v ⟨Nat.le_of_ble_eq_true rfl, Nat.le_of_ble_eq_true rfl⟩ (wC_at_0 ad cy σ) rfl rfl rfl rfl (Nat.le_of_ble_eq_true rfl) dX7_tile_58 (fun r29 g30 h => ?_)
            exact hret _ _ rfl h _ _ dX7_tile_61
      · have h := (And.right h) c24
        refine zz_sub [0] [(0, .ref (ad 0))] rfl ?_
        exact zu7_tile_26 K hret h
  · have h := (And.right h) c22
    refine zz_aload_n K 0 dX7_tile_11 rfl rfl ?_
    refine zz_iconst K dX7_tile_12 zcCi_m1 ?_
    refine zz_callVi K zz_nwC [.int (-1 : Int32)] (zc7_refuse l D ad cy (-1 : Int32) σ _  h) gX7_tile_X7_refuse rfl ⟨rfl, rfl⟩ zdsC_yX7_refuse_v ⟨Nat.le_of_ble_eq_true rfl, Nat.le_of_ble_eq_true rfl⟩ (wC_at_0 ad cy σ) rfl rfl rfl rfl (Nat.le_of_ble_eq_true rfl) dX7_tile_13 (fun r31 g32 h => ?_)
    exact hret _ _ rfl h _ _ dX7_tile_16
set_option maxRecDepth 100000 in
theorem zc7_tile (l : Launch) (D : va_G) (ad : Nat → Nat) (cy : Nat → ClassId) (v1 : Int32) (v2 : Int32) (σ : zz_St) (Qp : Int32 → zz_St → Prop) (h : zq7_tile v1 v2 σ Qp) : zz_Mi l yX7_tile wsX7_tile zrm7_tile D (tysC cy) (wC ad cy) nwC [.ref (ad 0), .int v1, .int v2] σ Qp :=
  zz_Mi.of zz_nwC (wC_ad ad cy) (by decide +kernel) rfl ⟨rfl, rfl⟩ (Nat.le_of_ble_eq_true rfl) (fun p e s m args below meth c A QW K hret => zu7_tile_0 K  hret h)
theorem zin_X7_of_X7 : ∀ w ∈ wsX70, w ∈ wsX7_of := fun w h => List.mem_cons_of_mem _ (List.mem_append_left _ (List.mem_append_right _ h))
theorem zlk_X7_of_1 : Cond.fieldLink RX7 26 "SolidsRolled" "world" "LSolidsRolled$World;" ∈ wsX7_of := List.mem_of_getElem? (i := 1) rfl
theorem zin_X7_of_X6 : ∀ w ∈ wsX60, w ∈ wsX7_of := fun w h => List.mem_cons_of_mem _ (List.mem_append_right _ h)
theorem zlk_X7_of_3 : Cond.fieldLink RX7 121 "SolidsRolled$World" "prints" "[I" ∈ wsX7_of := List.mem_of_getElem? (i := 3) rfl
theorem zlk_X7_of_2 : Cond.fieldLink RX7 118 "SolidsRolled$World" "tiles" "[I" ∈ wsX7_of := List.mem_of_getElem? (i := 2) rfl
abbrev zrm7_of : Room := { frames := 2, cells := 0, slots := 0, locals := 41 }
set_option maxHeartbeats 4000000 in
set_option maxRecDepth 100000 in
theorem zu7_of_26 {p : Program} {l : Launch} {e : Env} {s : State} {m : MethodId} {args : Array Value} {below : List Frame} {meth : Method} {c : Code} {Q : State → Prop} {D : va_G} {A : Nat → Prop} {ad : Nat → Nat} {cy : Nat → ClassId}  {σ : zz_St} (K : zz_K p s m args c cX7_of 3 RX7 wsX7_of D (tysC cy) A (wC ad cy) nwC) {Qp : Int32 → zz_St → Prop} (hret : ∀ (r : Int32) (σ2 : zz_St), narrow .int (.int r) = .int r → Qp r σ2 → ∀ (pc : Nat) (lv : List (Nat × Value)), decode cX7_of pc = .ok (.ireturn, 1) → zz_G p l e zrm7_of s m args below meth c Q D A (wC ad cy) 3 pc lv [.int r] σ2) (h : zq7_of_26 σ Qp) : zz_G p l e zrm7_of s m args below meth c Q D A (wC ad cy) 3 26 [(0, .ref (ad 0))] [] σ := by
  unfold zq7_of_26 at h
  refine zz_aload_n K 0 dX7_of_26 rfl rfl ?_
  refine zz_bipush K dX7_of_27 zcCb_m2 ?_
  refine zz_callVi K zz_nwC [.int (-2 : Int32)] (zc7_refuse l D ad cy (-2 : Int32) σ _  h) gX7_of_X7_refuse rfl ⟨rfl, rfl⟩ zdsC_yX7_refuse_v ⟨Nat.le_of_ble_eq_true rfl, Nat.le_of_ble_eq_true rfl⟩ (wC_at_0 ad cy σ) rfl rfl rfl rfl (Nat.le_of_ble_eq_true rfl) dX7_of_29 (fun r11 g12 h => ?_)
  exact hret _ _ rfl h _ _ dX7_of_32
set_option maxHeartbeats 4000000 in
set_option maxRecDepth 100000 in
theorem zu7_of_0 {p : Program} {l : Launch} {e : Env} {s : State} {m : MethodId} {args : Array Value} {below : List Frame} {meth : Method} {c : Code} {Q : State → Prop} {D : va_G} {A : Nat → Prop} {ad : Nat → Nat} {cy : Nat → ClassId} {v1 : Int32} {v2 : Int32} {σ : zz_St} (K : zz_K p s m args c cX7_of 3 RX7 wsX7_of D (tysC cy) A (wC ad cy) nwC) {Qp : Int32 → zz_St → Prop} (hret : ∀ (r : Int32) (σ2 : zz_St), narrow .int (.int r) = .int r → Qp r σ2 → ∀ (pc : Nat) (lv : List (Nat × Value)), decode cX7_of pc = .ok (.ireturn, 1) → zz_G p l e zrm7_of s m args below meth c Q D A (wC ad cy) 3 pc lv [.int r] σ2) (h : zq7_of v1 v2 σ Qp) : zz_G p l e zrm7_of s m args below meth c Q D A (wC ad cy) 3 0 [(0, .ref (ad 0)), (1, .int v1), (2, .int v2)] [] σ := by
  unfold zq7_of at h
  refine zz_aload_n K 0 dX7_of_0 rfl rfl ?_
  refine zg7_0_0 K zin_X7_of_X7 zlk_X7_of_1 dX7_of_1 ?_
  refine zz_iload_n K 1 dX7_of_4 rfl rfl ?_
  refine zz_callVi1 K zz_nwC [.int v1] (zc6_hasTile l D ad cy v1 σ _  h) gX7_of_X6_hasTile rfl ⟨rfl, rfl⟩ zdsC_yX6_hasTile_v ⟨Nat.le_of_ble_eq_true rfl, Nat.le_of_ble_eq_true rfl⟩ (wC_at_1 ad cy σ) rfl rfl rfl rfl (Nat.le_of_ble_eq_true rfl) dX7_of_5 (fun r13 h => ?_)
  refine zz_if_ne K 17 dX7_of_8 rfl (fun c14 => ?_) (fun c14 => ?_)
  · have h := (And.left h) c14
    refine zz_iload_n K 2 dX7_of_17 rfl rfl ?_
    refine zz_if_lt K 26 dX7_of_18 rfl (fun c15 => ?_) (fun c15 => ?_)
    · have h := (And.left h) c15
      refine zz_sub [0] [(0, .ref (ad 0))] rfl ?_
      exact zu7_of_26 K hret h
    · have h := (And.right h) c15
      refine zz_iload_n K 2 dX7_of_21 rfl rfl ?_
      refine zz_iconst K dX7_of_22 zcCi_1 ?_
      refine zz_icmp_le K 33 dX7_of_23 rfl (fun c16 => ?_) (fun c16 => ?_)
      · have h := (And.left h) c16
        refine zz_iload_n K 2 dX7_of_33 rfl rfl ?_
        refine zz_if_ne K 47 dX7_of_34 rfl (fun c17 => ?_) (fun c17 => ?_)
        · have h := (And.left h) c17
          refine zz_aload_n K 0 dX7_of_47 rfl rfl ?_
          refine zg7_0_0 K zin_X7_of_X7 zlk_X7_of_1 dX7_of_48 ?_
          refine zg6_3_0 K zin_X7_of_X6 zlk_X7_of_3 dX7_of_51 ?_
          refine zz_iload_n K 1 dX7_of_54 rfl rfl ?_
          obtain ⟨hin, h⟩ := h
          refine zz_iaload K 0 (wC_at_16 ad cy σ) rfl hin dX7_of_55 ?_
          refine zz_iconst K dX7_of_56 zcCi_m1 ?_
          refine zz_icmp_ne K 65 dX7_of_57 rfl (fun c18 => ?_) (fun c18 => ?_)
          · have h := (And.left h) c18
            refine zz_aload_n K 0 dX7_of_65 rfl rfl ?_
            refine zg7_0_0 K zin_X7_of_X7 zlk_X7_of_1 dX7_of_66 ?_
            refine zg6_3_0 K zin_X7_of_X6 zlk_X7_of_3 dX7_of_69 ?_
            refine zz_iload_n K 1 dX7_of_72 rfl rfl ?_
            obtain ⟨hin, h⟩ := h
            refine zz_iaload K 0 (wC_at_16 ad cy σ) rfl hin dX7_of_73 ?_
            exact hret _ _ rfl h _ _ dX7_of_74
          · have h := (And.right h) c18
            refine zz_bipush K dX7_of_60 zcCb_m9 ?_
            refine zz_goto K 74 dX7_of_62 rfl ?_
            exact hret _ _ rfl h _ _ dX7_of_74
        · have h := (And.right h) c17
          refine zz_aload_n K 0 dX7_of_37 rfl rfl ?_
          refine zg7_0_0 K zin_X7_of_X7 zlk_X7_of_1 dX7_of_38 ?_
          refine zg6_2_0 K zin_X7_of_X6 zlk_X7_of_2 dX7_of_41 ?_
          refine zz_iload_n K 1 dX7_of_44 rfl rfl ?_
          obtain ⟨hin, h⟩ := h
          refine zz_iaload K 0 (wC_at_14 ad cy σ) rfl hin dX7_of_45 ?_
          exact hret _ _ rfl h _ _ dX7_of_46
      · have h := (And.right h) c16
        refine zz_sub [0] [(0, .ref (ad 0))] rfl ?_
        exact zu7_of_26 K hret h
  · have h := (And.right h) c14
    refine zz_aload_n K 0 dX7_of_11 rfl rfl ?_
    refine zz_iconst K dX7_of_12 zcCi_m1 ?_
    refine zz_callVi K zz_nwC [.int (-1 : Int32)] (zc7_refuse l D ad cy (-1 : Int32) σ _  h) gX7_of_X7_refuse rfl ⟨rfl, rfl⟩ zdsC_yX7_refuse_v ⟨Nat.le_of_ble_eq_true rfl, Nat.le_of_ble_eq_true rfl⟩ (wC_at_0 ad cy σ) rfl rfl rfl rfl (Nat.le_of_ble_eq_true rfl) dX7_of_13 (fun r19 g20 h => ?_)
    exact hret _ _ rfl h _ _ dX7_of_16
set_option maxRecDepth 100000 in
theorem zc7_of (l : Launch) (D : va_G) (ad : Nat → Nat) (cy : Nat → ClassId) (v1 : Int32) (v2 : Int32) (σ : zz_St) (Qp : Int32 → zz_St → Prop) (h : zq7_of v1 v2 σ Qp) : zz_Mi l yX7_of wsX7_of zrm7_of D (tysC cy) (wC ad cy) nwC [.ref (ad 0), .int v1, .int v2] σ Qp :=
  zz_Mi.of zz_nwC (wC_ad ad cy) (by decide +kernel) rfl ⟨rfl, rfl⟩ (Nat.le_of_ble_eq_true rfl) (fun p e s m args below meth c A QW K hret => zu7_of_0 K  hret h)
abbrev zrm7_isKind : Room := { frames := 0, cells := 0, slots := 0, locals := 0 }
set_option maxHeartbeats 4000000 in
set_option maxRecDepth 100000 in
theorem zu7_isKind_0 {p : Program} {l : Launch} {e : Env} {s : State} {m : MethodId} {args : Array Value} {below : List Frame} {meth : Method} {c : Code} {Q : State → Prop} {D : va_G} {A : Nat → Prop} {ad : Nat → Nat} {cy : Nat → ClassId} {v0 : Int32} {σ : zz_St} (K : zz_K p s m args c cX7_isKind 1 RX7 wsX7_isKind D (tysC cy) A (wC ad cy) nwC) {Qp : Int32 → Prop} (hret : ∀ (r : Int32), narrow .boolean (.int r) = .int r → Qp r → ∀ (pc : Nat) (lv : List (Nat × Value)), decode cX7_isKind pc = .ok (.ireturn, 1) → zz_G p l e zrm7_isKind s m args below meth c Q D A (wC ad cy) 1 pc lv [.int r] σ) (h : zq7_isKind v0 Qp) : zz_G p l e zrm7_isKind s m args below meth c Q D A (wC ad cy) 1 0 [(0, .int v0)] [] σ := by
  unfold zq7_isKind at h
  refine zz_iload_n K 0 dX7_isKind_0 rfl rfl ?_
  refine zz_if_lt K 14 dX7_isKind_1 rfl (fun c3 => ?_) (fun c3 => ?_)
  · have h := (And.left h) c3
    refine zz_iconst K dX7_isKind_14 zcCi_0 ?_
    exact hret _ rfl h _ _ dX7_isKind_15
  · have h := (And.right h) c3
    refine zz_iload_n K 0 dX7_isKind_4 rfl rfl ?_
    refine zz_bipush K dX7_isKind_5 zcCb_6 ?_
    refine zz_icmp_ge K 14 dX7_isKind_7 rfl (fun c4 => ?_) (fun c4 => ?_)
    · have h := (And.left h) c4
      refine zz_iconst K dX7_isKind_14 zcCi_0 ?_
      exact hret _ rfl h _ _ dX7_isKind_15
    · have h := (And.right h) c4
      refine zz_iconst K dX7_isKind_10 zcCi_1 ?_
      refine zz_goto K 15 dX7_isKind_11 rfl ?_
      exact hret _ rfl h _ _ dX7_isKind_15
set_option maxRecDepth 100000 in
theorem zc7_isKind (l : Launch) (D : va_G) (ad : Nat → Nat) (cy : Nat → ClassId) (v0 : Int32) (σ : zz_St) (Qp : Int32 → Prop) (h : zq7_isKind v0 Qp) : zz_Mi l yX7_isKind wsX7_isKind zrm7_isKind D (tysC cy) (wC ad cy) nwC [.int v0] σ (fun r σ2 => σ2 = σ ∧ Qp r) :=
  zz_Mi.of zz_nwC (wC_ad ad cy) (by decide +kernel) rfl ⟨rfl, rfl⟩ (Nat.le_of_ble_eq_true rfl) (fun p e s m args below meth c A QW K hret => zu7_isKind_0 K  (fun r hn hq pc lv hd => hret r σ hn ⟨rfl, hq⟩ pc lv hd) h)
theorem zin_X7_places_X7 : ∀ w ∈ wsX70, w ∈ wsX7_places := fun w h => List.mem_cons_of_mem _ (List.mem_append_left _ (List.mem_append_left _ (List.mem_append_right _ h)))
theorem zlk_X7_places_1 : Cond.fieldLink RX7 26 "SolidsRolled" "world" "LSolidsRolled$World;" ∈ wsX7_places := List.mem_of_getElem? (i := 1) rfl
theorem zlk_X7_places_2 : Cond.fieldLink RX7 54 "SolidsRolled" "history" "LSolidsRolled$History;" ∈ wsX7_places := List.mem_of_getElem? (i := 2) rfl
theorem zdsC_yX6_hasPlace_v : yX6_hasPlace.cls = RX6 ∧ yX6_hasPlace.cls ≠ "java/lang/invoke/MethodHandle" ∧ yX6_hasPlace.cls ≠ "java/lang/invoke/VarHandle" ∧ (parseMethodDescriptor yX6_hasPlace.desc).map (fun d => d.parameters.length) = some 2 := by decide +kernel
theorem zdsC_yX7_isKind_s : yX7_isKind.cls ≠ "java/lang/invoke/MethodHandle" ∧ yX7_isKind.cls ≠ "java/lang/invoke/VarHandle" ∧ (parseMethodDescriptor yX7_isKind.desc).map (fun d => d.parameters.length) = some 1 := by decide +kernel
abbrev zrm7_places : Room := { frames := 2, cells := 0, slots := 0, locals := 45 }
set_option maxHeartbeats 4000000 in
set_option maxRecDepth 100000 in
theorem zu7_places_0 {p : Program} {l : Launch} {e : Env} {s : State} {m : MethodId} {args : Array Value} {below : List Frame} {meth : Method} {c : Code} {Q : State → Prop} {D : va_G} {A : Nat → Prop} {ad : Nat → Nat} {cy : Nat → ClassId} {v1 : Int32} {v2 : Int32} {σ : zz_St} (K : zz_K p s m args c cX7_places 3 RX7 wsX7_places D (tysC cy) A (wC ad cy) nwC) {Qp : Int32 → zz_St → Prop} (hret : ∀ (r : Int32) (σ2 : zz_St), narrow .int (.int r) = .int r → Qp r σ2 → ∀ (pc : Nat) (lv : List (Nat × Value)), decode cX7_places pc = .ok (.ireturn, 1) → zz_G p l e zrm7_places s m args below meth c Q D A (wC ad cy) 3 pc lv [.int r] σ2) (h : zq7_places v1 v2 σ Qp) : zz_G p l e zrm7_places s m args below meth c Q D A (wC ad cy) 3 0 [(0, .ref (ad 0)), (1, .int v1), (2, .int v2)] [] σ := by
  unfold zq7_places at h
  refine zz_iload_n K 1 dX7_places_0 rfl rfl ?_
  refine zz_callSi1 K zz_nwC [.int v1] (zc7_isKind l D ad cy v1 σ _  h) gX7_places_X7_isKind rfl ⟨rfl, rfl⟩ zdsC_yX7_isKind_s ⟨Nat.le_of_ble_eq_true rfl, Nat.le_of_ble_eq_true rfl⟩ rfl rfl (Nat.le_of_ble_eq_true rfl) dX7_places_1 (fun r15 h => ?_)
  refine zz_if_ne K 14 dX7_places_4 rfl (fun c16 => ?_) (fun c16 => ?_)
  · have h := (And.left h) c16
    refine zz_aload_n K 0 dX7_places_14 rfl rfl ?_
    refine zg7_0_0 K zin_X7_places_X7 zlk_X7_places_1 dX7_places_15 ?_
    refine zz_iload_n K 1 dX7_places_18 rfl rfl ?_
    refine zz_iload_n K 2 dX7_places_19 rfl rfl ?_
    refine zz_callVi1 K zz_nwC [.int v1, .int v2] (zc6_hasPlace l D ad cy v1 v2 σ _  h) gX7_places_X6_hasPlace rfl ⟨rfl, rfl⟩ zdsC_yX6_hasPlace_v ⟨Nat.le_of_ble_eq_true rfl, Nat.le_of_ble_eq_true rfl⟩ (wC_at_1 ad cy σ) rfl rfl rfl rfl (Nat.le_of_ble_eq_true rfl) dX7_places_20 (fun r17 h => ?_)
    refine zz_if_ne K 32 dX7_places_23 rfl (fun c18 => ?_) (fun c18 => ?_)
    · have h := (And.left h) c18
      refine zz_aload_n K 0 dX7_places_32 rfl rfl ?_
      refine zg7_0_0 K zin_X7_places_X7 zlk_X7_places_1 dX7_places_33 ?_
      refine zz_iload_n K 1 dX7_places_36 rfl rfl ?_
      refine zz_iload_n K 2 dX7_places_37 rfl rfl ?_
      refine zz_callVi1 K zz_nwC [.int v1, .int v2] (zc6_mayBePlaced l D ad cy v1 v2 σ _  h) gX7_places_X6_mayBePlaced rfl ⟨rfl, rfl⟩ zdsC_yX6_mayBePlaced_v ⟨Nat.le_of_ble_eq_true rfl, Nat.le_of_ble_eq_true rfl⟩ (wC_at_1 ad cy σ) rfl rfl rfl rfl (Nat.le_of_ble_eq_true rfl) dX7_places_38 (fun r19 h => ?_)
      refine zz_if_ne K 51 dX7_places_41 rfl (fun c20 => ?_) (fun c20 => ?_)
      · have h := (And.left h) c20
        refine zz_aload_n K 0 dX7_places_51 rfl rfl ?_
        refine zg7_0_0 K zin_X7_places_X7 zlk_X7_places_1 dX7_places_52 ?_
        refine zz_iload_n K 1 dX7_places_55 rfl rfl ?_
        refine zz_iload_n K 2 dX7_places_56 rfl rfl ?_
        refine zz_callVv K zz_nwC [.int v1, .int v2] (zc6_setSolid l D ad cy v1 v2 σ _  h) gX7_places_X6_setSolid rfl ⟨rfl, rfl⟩ zdsC_yX6_setSolid_v ⟨Nat.le_of_ble_eq_true rfl, Nat.le_of_ble_eq_true rfl⟩ (wC_at_1 ad cy σ) rfl rfl rfl rfl (Nat.le_of_ble_eq_true rfl) dX7_places_57 (fun g21 h => ?_)
        refine zz_aload_n K 0 dX7_places_60 rfl rfl ?_
        refine zg7_5_0 K zin_X7_places_X7 zlk_X7_places_2 dX7_places_61 ?_
        refine zz_callVv K zz_nwC [] (zc0_forget l D ad cy  g21 _  h) gX7_places_X0_forget rfl ⟨rfl, rfl⟩ zdsC_yX0_forget_v ⟨Nat.le_of_ble_eq_true rfl, Nat.le_of_ble_eq_true rfl⟩ (wC_at_5 ad cy g21) rfl rfl rfl rfl (Nat.le_of_ble_eq_true rfl) dX7_places_64 (fun g22 h => ?_)
        refine zz_iconst K dX7_places_67 zcCi_1 ?_
        exact hret _ _ rfl h _ _ dX7_places_68
      · have h := (And.right h) c20
        refine zz_aload_n K 0 dX7_places_44 rfl rfl ?_
        refine zz_bipush K dX7_places_45 zcCb_m3 ?_
        refine zz_callVi K zz_nwC [.int (-3 : Int32)] (zc7_refuse l D ad cy (-3 : Int32) σ _  h) gX7_places_X7_refuse rfl ⟨rfl, rfl⟩ zdsC_yX7_refuse_v ⟨Nat.le_of_ble_eq_true rfl, Nat.le_of_ble_eq_true rfl⟩ (wC_at_0 ad cy σ) rfl rfl rfl rfl (Nat.le_of_ble_eq_true rfl) dX7_places_47 (fun r23 g24 h => ?_)
        exact hret _ _ rfl h _ _ dX7_places_50
    · have h := (And.right h) c18
      refine zz_aload_n K 0 dX7_places_26 rfl rfl ?_
      refine zz_iconst K dX7_places_27 zcCi_m1 ?_
      refine zz_callVi K zz_nwC [.int (-1 : Int32)] (zc7_refuse l D ad cy (-1 : Int32) σ _  h) gX7_places_X7_refuse rfl ⟨rfl, rfl⟩ zdsC_yX7_refuse_v ⟨Nat.le_of_ble_eq_true rfl, Nat.le_of_ble_eq_true rfl⟩ (wC_at_0 ad cy σ) rfl rfl rfl rfl (Nat.le_of_ble_eq_true rfl) dX7_places_28 (fun r25 g26 h => ?_)
      exact hret _ _ rfl h _ _ dX7_places_31
  · have h := (And.right h) c16
    refine zz_aload_n K 0 dX7_places_7 rfl rfl ?_
    refine zz_bipush K dX7_places_8 zcCb_m2 ?_
    refine zz_callVi K zz_nwC [.int (-2 : Int32)] (zc7_refuse l D ad cy (-2 : Int32) σ _  h) gX7_places_X7_refuse rfl ⟨rfl, rfl⟩ zdsC_yX7_refuse_v ⟨Nat.le_of_ble_eq_true rfl, Nat.le_of_ble_eq_true rfl⟩ (wC_at_0 ad cy σ) rfl rfl rfl rfl (Nat.le_of_ble_eq_true rfl) dX7_places_10 (fun r27 g28 h => ?_)
    exact hret _ _ rfl h _ _ dX7_places_13
set_option maxRecDepth 100000 in
theorem zc7_places (l : Launch) (D : va_G) (ad : Nat → Nat) (cy : Nat → ClassId) (v1 : Int32) (v2 : Int32) (σ : zz_St) (Qp : Int32 → zz_St → Prop) (h : zq7_places v1 v2 σ Qp) : zz_Mi l yX7_places wsX7_places zrm7_places D (tysC cy) (wC ad cy) nwC [.ref (ad 0), .int v1, .int v2] σ Qp :=
  zz_Mi.of zz_nwC (wC_ad ad cy) (by decide +kernel) rfl ⟨rfl, rfl⟩ (Nat.le_of_ble_eq_true rfl) (fun p e s m args below meth c A QW K hret => zu7_places_0 K  hret h)
theorem zin_X7_ink_X7 : ∀ w ∈ wsX70, w ∈ wsX7_ink := fun w h => List.mem_cons_of_mem _ (List.mem_append_left _ (List.mem_append_right _ h))
theorem zlk_X7_ink_1 : Cond.fieldLink RX7 26 "SolidsRolled" "world" "LSolidsRolled$World;" ∈ wsX7_ink := List.mem_of_getElem? (i := 1) rfl
theorem zin_X7_ink_X6 : ∀ w ∈ wsX60, w ∈ wsX7_ink := fun w h => List.mem_cons_of_mem _ (List.mem_append_right _ h)
theorem zlk_X7_ink_2 : Cond.fieldLink RX7 138 "SolidsRolled$World" "ink" "I" ∈ wsX7_ink := List.mem_of_getElem? (i := 2) rfl
abbrev zrm7_ink : Room := { frames := 1, cells := 0, slots := 0, locals := 22 }
set_option maxHeartbeats 4000000 in
set_option maxRecDepth 100000 in
theorem zu7_ink_9 {p : Program} {l : Launch} {e : Env} {s : State} {m : MethodId} {args : Array Value} {below : List Frame} {meth : Method} {c : Code} {Q : State → Prop} {D : va_G} {A : Nat → Prop} {ad : Nat → Nat} {cy : Nat → ClassId}  {σ : zz_St} (K : zz_K p s m args c cX7_ink 3 RX7 wsX7_ink D (tysC cy) A (wC ad cy) nwC) {Qp : Int32 → zz_St → Prop} (hret : ∀ (r : Int32) (σ2 : zz_St), narrow .int (.int r) = .int r → Qp r σ2 → ∀ (pc : Nat) (lv : List (Nat × Value)), decode cX7_ink pc = .ok (.ireturn, 1) → zz_G p l e zrm7_ink s m args below meth c Q D A (wC ad cy) 3 pc lv [.int r] σ2) (h : zq7_ink_9 σ Qp) : zz_G p l e zrm7_ink s m args below meth c Q D A (wC ad cy) 3 9 [(0, .ref (ad 0))] [] σ := by
  unfold zq7_ink_9 at h
  refine zz_aload_n K 0 dX7_ink_9 rfl rfl ?_
  refine zz_bipush K dX7_ink_10 zcCb_m2 ?_
  refine zz_callVi K zz_nwC [.int (-2 : Int32)] (zc7_refuse l D ad cy (-2 : Int32) σ _  h) gX7_ink_X7_refuse rfl ⟨rfl, rfl⟩ zdsC_yX7_refuse_v ⟨Nat.le_of_ble_eq_true rfl, Nat.le_of_ble_eq_true rfl⟩ (wC_at_0 ad cy σ) rfl rfl rfl rfl (Nat.le_of_ble_eq_true rfl) dX7_ink_12 (fun r7 g8 h => ?_)
  exact hret _ _ rfl h _ _ dX7_ink_15
set_option maxHeartbeats 4000000 in
set_option maxRecDepth 100000 in
theorem zu7_ink_0 {p : Program} {l : Launch} {e : Env} {s : State} {m : MethodId} {args : Array Value} {below : List Frame} {meth : Method} {c : Code} {Q : State → Prop} {D : va_G} {A : Nat → Prop} {ad : Nat → Nat} {cy : Nat → ClassId} {v1 : Int32} {σ : zz_St} (K : zz_K p s m args c cX7_ink 3 RX7 wsX7_ink D (tysC cy) A (wC ad cy) nwC) {Qp : Int32 → zz_St → Prop} (hret : ∀ (r : Int32) (σ2 : zz_St), narrow .int (.int r) = .int r → Qp r σ2 → ∀ (pc : Nat) (lv : List (Nat × Value)), decode cX7_ink pc = .ok (.ireturn, 1) → zz_G p l e zrm7_ink s m args below meth c Q D A (wC ad cy) 3 pc lv [.int r] σ2) (h : zq7_ink v1 σ Qp) : zz_G p l e zrm7_ink s m args below meth c Q D A (wC ad cy) 3 0 [(0, .ref (ad 0)), (1, .int v1)] [] σ := by
  unfold zq7_ink at h
  refine zz_iload_n K 1 dX7_ink_0 rfl rfl ?_
  refine zz_if_lt K 9 dX7_ink_1 rfl (fun c9 => ?_) (fun c9 => ?_)
  · have h := (And.left h) c9
    refine zz_sub [0] [(0, .ref (ad 0))] rfl ?_
    exact zu7_ink_9 K hret h
  · have h := (And.right h) c9
    refine zz_iload_n K 1 dX7_ink_4 rfl rfl ?_
    refine zz_iconst K dX7_ink_5 zcCi_1 ?_
    refine zz_icmp_le K 16 dX7_ink_6 rfl (fun c10 => ?_) (fun c10 => ?_)
    · have h := (And.left h) c10
      refine zz_aload_n K 0 dX7_ink_16 rfl rfl ?_
      refine zg7_0_0 K zin_X7_ink_X7 zlk_X7_ink_1 dX7_ink_17 ?_
      refine zg6_8_0 K zin_X7_ink_X6 zlk_X7_ink_2 dX7_ink_20 ?_
      refine zz_nmi (fun x11 ex11 => ?_)
      have h := h x11 ex11
      refine zz_istore_n K [(2, .int x11), (0, .ref (ad 0)), (1, .int v1)] dX7_ink_23 rfl (by decide) rfl ?_
      refine zz_aload_n K 1 dX7_ink_24 rfl rfl ?_
      refine zg7_0_0 K zin_X7_ink_X7 zlk_X7_ink_1 dX7_ink_25 ?_
      refine zz_iload_n K 2 dX7_ink_28 rfl rfl ?_
      refine zp6_8_0 K zin_X7_ink_X6 zlk_X7_ink_2 dX7_ink_29 ?_
      refine zz_nms (fun g12 eg12 => ?_)
      have h := h g12 eg12
      refine zz_iload_n K 0 dX7_ink_32 rfl rfl ?_
      exact hret _ _ rfl h _ _ dX7_ink_33
    · have h := (And.right h) c10
      refine zz_sub [0] [(0, .ref (ad 0))] rfl ?_
      exact zu7_ink_9 K hret h
set_option maxRecDepth 100000 in
theorem zc7_ink (l : Launch) (D : va_G) (ad : Nat → Nat) (cy : Nat → ClassId) (v1 : Int32) (σ : zz_St) (Qp : Int32 → zz_St → Prop) (h : zq7_ink v1 σ Qp) : zz_Mi l yX7_ink wsX7_ink zrm7_ink D (tysC cy) (wC ad cy) nwC [.ref (ad 0), .int v1] σ Qp :=
  zz_Mi.of zz_nwC (wC_ad ad cy) (by decide +kernel) rfl ⟨rfl, rfl⟩ (Nat.le_of_ble_eq_true rfl) (fun p e s m args below meth c A QW K hret => zu7_ink_0 K  hret h)
theorem zin_X7_wipes_X7 : ∀ w ∈ wsX70, w ∈ wsX7_wipes := fun w h => List.mem_cons_of_mem _ (List.mem_append_left _ (List.mem_append_right _ h))
theorem zlk_X7_wipes_1 : Cond.fieldLink RX7 26 "SolidsRolled" "world" "LSolidsRolled$World;" ∈ wsX7_wipes := List.mem_of_getElem? (i := 1) rfl
theorem zdsC_yX6_countPrints_v : yX6_countPrints.cls = RX6 ∧ yX6_countPrints.cls ≠ "java/lang/invoke/MethodHandle" ∧ yX6_countPrints.cls ≠ "java/lang/invoke/VarHandle" ∧ (parseMethodDescriptor yX6_countPrints.desc).map (fun d => d.parameters.length) = some 0 := by decide +kernel
abbrev zrm7_wipes : Room := { frames := 2, cells := 0, slots := 0, locals := 43 }
set_option maxHeartbeats 4000000 in
set_option maxRecDepth 100000 in
theorem zu7_wipes_0 {p : Program} {l : Launch} {e : Env} {s : State} {m : MethodId} {args : Array Value} {below : List Frame} {meth : Method} {c : Code} {Q : State → Prop} {D : va_G} {A : Nat → Prop} {ad : Nat → Nat} {cy : Nat → ClassId}  {σ : zz_St} (K : zz_K p s m args c cX7_wipes 2 RX7 wsX7_wipes D (tysC cy) A (wC ad cy) nwC) {Qp : Int32 → zz_St → Prop} (hret : ∀ (r : Int32) (σ2 : zz_St), narrow .int (.int r) = .int r → Qp r σ2 → ∀ (pc : Nat) (lv : List (Nat × Value)), decode cX7_wipes pc = .ok (.ireturn, 1) → zz_G p l e zrm7_wipes s m args below meth c Q D A (wC ad cy) 2 pc lv [.int r] σ2) (h : zq7_wipes σ Qp) : zz_G p l e zrm7_wipes s m args below meth c Q D A (wC ad cy) 2 0 [(0, .ref (ad 0))] [] σ := by
  unfold zq7_wipes at h
  refine zz_aload_n K 0 dX7_wipes_0 rfl rfl ?_
  refine zg7_0_0 K zin_X7_wipes_X7 zlk_X7_wipes_1 dX7_wipes_1 ?_
  refine zz_callVi1 K zz_nwC [] (zc6_countPrints l D ad cy  σ _  h) gX7_wipes_X6_countPrints rfl ⟨rfl, rfl⟩ zdsC_yX6_countPrints_v ⟨Nat.le_of_ble_eq_true rfl, Nat.le_of_ble_eq_true rfl⟩ (wC_at_1 ad cy σ) rfl rfl rfl rfl (Nat.le_of_ble_eq_true rfl) dX7_wipes_4 (fun r3 h => ?_)
  refine zz_istore_n K [(1, .int r3), (0, .ref (ad 0))] dX7_wipes_7 rfl (by decide) rfl ?_
  refine zz_aload_n K 1 dX7_wipes_8 rfl rfl ?_
  refine zg7_0_0 K zin_X7_wipes_X7 zlk_X7_wipes_1 dX7_wipes_9 ?_
  refine zz_callVv K zz_nwC [] (zc6_clearPrints l D ad cy  σ _  h) gX7_wipes_X6_clearPrints rfl ⟨rfl, rfl⟩ zdsC_yX6_clearPrints_v ⟨Nat.le_of_ble_eq_true rfl, Nat.le_of_ble_eq_true rfl⟩ (wC_at_1 ad cy σ) rfl rfl rfl rfl (Nat.le_of_ble_eq_true rfl) dX7_wipes_12 (fun g4 h => ?_)
  refine zz_iload_n K 0 dX7_wipes_15 rfl rfl ?_
  exact hret _ _ rfl h _ _ dX7_wipes_16
set_option maxRecDepth 100000 in
theorem zc7_wipes (l : Launch) (D : va_G) (ad : Nat → Nat) (cy : Nat → ClassId)  (σ : zz_St) (Qp : Int32 → zz_St → Prop) (h : zq7_wipes σ Qp) : zz_Mi l yX7_wipes wsX7_wipes zrm7_wipes D (tysC cy) (wC ad cy) nwC [.ref (ad 0)] σ Qp :=
  zz_Mi.of zz_nwC (wC_ad ad cy) (by decide +kernel) rfl ⟨rfl, rfl⟩ (Nat.le_of_ble_eq_true rfl) (fun p e s m args below meth c A QW K hret => zu7_wipes_0 K  hret h)
