theorem zci_0 : Int32.ofInt (0) = (0 : Int32) := by decide
theorem zci_1 : Int32.ofInt (1) = (1 : Int32) := by decide
abbrev zrm8_in : Room := { frames := 0, cells := 0, slots := 0, locals := 0 }
set_option maxHeartbeats 4000000 in
set_option maxRecDepth 100000 in
theorem zu8_in_0 {p : Program} {l : Launch} {e : Env} {s : State} {m : MethodId} {args : Array Value} {below : List Frame} {meth : Method} {c : Code} {Q : State → Prop} {D : va_G} {A : Nat → Prop} {ad : Nat → Nat} {cy : Nat → ClassId} {v0 : Int64} {v2 : Int64} {v4 : Int64} {σ : zz_St} (K : zz_K p s m args c cX8_in 6 RX8 wsX8_in D (tysM cy) A (wM ad cy) []) {Qp : Int32 → Prop} (hret : ∀ (r : Int32), narrow .boolean (.int r) = .int r → Qp r → ∀ (pc : Nat) (lv : List (Nat × Value)), decode cX8_in pc = .ok (.ireturn, 1) → zz_G p l e zrm8_in s m args below meth c Q D A (wM ad cy) 6 pc lv [.int r] σ) (h : zq8_in v0 v2 v4 Qp) : zz_G p l e zrm8_in s m args below meth c Q D A (wM ad cy) 6 0 [(0, .long v0), (2, .long v2), (4, .long v4)] [] σ := by
  unfold zq8_in at h
  refine zz_lload_n K 0 dX8_in_0 rfl rfl ?_
  refine zz_lload_n K 1 dX8_in_1 rfl rfl ?_
  refine zz_lcmp K dX8_in_2 ?_
  refine zz_if_lt K 17 dX8_in_3 rfl (fun c3 => ?_) (fun c3 => ?_)
  · have h := (And.left h) c3
    refine zz_iconst K dX8_in_17 zci_0 ?_
    exact hret _ rfl h _ _ dX8_in_18
  · have h := (And.right h) c3
    refine zz_lload_n K 0 dX8_in_6 rfl rfl ?_
    refine zz_lload K 2 dX8_in_7 rfl ?_
    refine zz_lcmp K dX8_in_9 ?_
    refine zz_if_gt K 17 dX8_in_10 rfl (fun c4 => ?_) (fun c4 => ?_)
    · have h := (And.left h) c4
      refine zz_iconst K dX8_in_17 zci_0 ?_
      exact hret _ rfl h _ _ dX8_in_18
    · have h := (And.right h) c4
      refine zz_iconst K dX8_in_13 zci_1 ?_
      refine zz_goto K 18 dX8_in_14 rfl ?_
      exact hret _ rfl h _ _ dX8_in_18
set_option maxRecDepth 100000 in
theorem zc8_in (l : Launch) (D : va_G) (ad : Nat → Nat) (cy : Nat → ClassId) (v0 : Int64) (v2 : Int64) (v4 : Int64) (σ : zz_St) (Qp : Int32 → Prop) (h : zq8_in v0 v2 v4 Qp) : zz_Mi l yX8_in wsX8_in zrm8_in D (tysM cy) (wM ad cy) [] [.long v0, .long v2, .long v4] σ (fun r σ2 => σ2 = σ ∧ Qp r) :=
  zz_Mi.of zz_nw_nil (wM_ad ad cy) (by decide +kernel) rfl ⟨rfl, rfl⟩ (Nat.le_of_ble_eq_true rfl) (fun p e s m args below meth c A QW K hret => zu8_in_0 K  (fun r hn hq pc lv hd => hret r σ hn ⟨rfl, hq⟩ pc lv hd) h)
theorem zcb_m6 : (Int8.ofInt (-6)).toInt32 = (-6 : Int32) := by decide
theorem zin_X8_no_X8 : ∀ w ∈ wsX80, w ∈ wsX8_no := fun w h => List.mem_cons_of_mem _ (List.mem_append_right _ h)
theorem zlk_X8_no_1 : Cond.fieldLink RX8 7 "SolidsRolledModel" "refusals" "[I" ∈ wsX8_no := List.mem_of_getElem? (i := 1) rfl
abbrev zrm8_no : Room := { frames := 0, cells := 0, slots := 0, locals := 0 }
set_option maxHeartbeats 4000000 in
set_option maxRecDepth 100000 in
theorem zu8_no_0 {p : Program} {l : Launch} {e : Env} {s : State} {m : MethodId} {args : Array Value} {below : List Frame} {meth : Method} {c : Code} {Q : State → Prop} {D : va_G} {A : Nat → Prop} {ad : Nat → Nat} {cy : Nat → ClassId} {v1 : Int32} {σ : zz_St} (K : zz_K p s m args c cX8_no 2 RX8 wsX8_no D (tysM cy) A (wM ad cy) []) {Qp : Int32 → zz_St → Prop} (hret : ∀ (r : Int32) (σ2 : zz_St), narrow .int (.int r) = .int r → Qp r σ2 → ∀ (pc : Nat) (lv : List (Nat × Value)), decode cX8_no pc = .ok (.ireturn, 1) → zz_G p l e zrm8_no s m args below meth c Q D A (wM ad cy) 2 pc lv [.int r] σ2) (h : zq8_no v1 σ Qp) : zz_G p l e zrm8_no s m args below meth c Q D A (wM ad cy) 2 0 [(0, .ref (ad 0)), (1, .int v1)] [] σ := by
  unfold zq8_no at h
  refine zz_iload_n K 1 dX8_no_0 rfl rfl ?_
  refine zz_bipush K dX8_no_1 zcb_m6 ?_
  refine zz_icmp_lt K 17 dX8_no_3 rfl (fun c3 => ?_) (fun c3 => ?_)
  · have h := (And.left h) c3
    refine zz_iload_n K 1 dX8_no_17 rfl rfl ?_
    exact hret _ _ rfl h _ _ dX8_no_18
  · have h := (And.right h) c3
    refine zz_aload_n K 0 dX8_no_6 rfl rfl ?_
    refine zg8_1 K zin_X8_no_X8 zlk_X8_no_1 dX8_no_7 ?_
    refine zz_iload_n K 1 dX8_no_10 rfl rfl ?_
    refine zz_ineg K dX8_no_11 ?_
    refine zz_dup2 K rfl rfl dX8_no_12 ?_
    obtain ⟨hin, h⟩ := h
    refine zz_iaload K 0 (wM_at_1 ad cy σ) rfl hin dX8_no_13 ?_
    refine zz_iconst K dX8_no_14 zci_1 ?_
    refine zz_iadd K dX8_no_15 ?_
    obtain ⟨hin, h⟩ := h
    refine zz_iastore K 0 (σ2 := zz_A σ 1 (upd ((σ).2.1 1) (-v1).toNatClampNeg (((σ).2.1 1 (-v1).toNatClampNeg) + (1 : Int32)))) (wM_at_1 ad cy σ) (wM_set_1 ad cy σ _) rfl hin dX8_no_16 ?_
    refine zz_nms (fun g4 eg4 => ?_)
    have h := h g4 eg4
    refine zz_iload_n K 1 dX8_no_17 rfl rfl ?_
    exact hret _ _ rfl h _ _ dX8_no_18
set_option maxRecDepth 100000 in
theorem zc8_no (l : Launch) (D : va_G) (ad : Nat → Nat) (cy : Nat → ClassId) (v1 : Int32) (σ : zz_St) (Qp : Int32 → zz_St → Prop) (h : zq8_no v1 σ Qp) : zz_Mi l yX8_no wsX8_no zrm8_no D (tysM cy) (wM ad cy) [] [.ref (ad 0), .int v1] σ Qp :=
  zz_Mi.of zz_nw_nil (wM_ad ad cy) (by decide +kernel) rfl ⟨rfl, rfl⟩ (Nat.le_of_ble_eq_true rfl) (fun p e s m args below meth c A QW K hret => zu8_no_0 K  hret h)
theorem zlk_X8_longNo_1 : Cond.constantLong RX8 11 (4000000000000000000) ∈ wsX8_longNo := List.mem_of_getElem? (i := 1) rfl
theorem zds_yX8_no_v : yX8_no.cls = RX8 ∧ yX8_no.cls ≠ "java/lang/invoke/MethodHandle" ∧ yX8_no.cls ≠ "java/lang/invoke/VarHandle" ∧ (parseMethodDescriptor yX8_no.desc).map (fun d => d.parameters.length) = some 1 := by decide +kernel
abbrev zrm8_longNo : Room := { frames := 1, cells := 0, slots := 0, locals := 21 }
set_option maxHeartbeats 4000000 in
set_option maxRecDepth 100000 in
theorem zu8_longNo_0 {p : Program} {l : Launch} {e : Env} {s : State} {m : MethodId} {args : Array Value} {below : List Frame} {meth : Method} {c : Code} {Q : State → Prop} {D : va_G} {A : Nat → Prop} {ad : Nat → Nat} {cy : Nat → ClassId} {v1 : Int32} {σ : zz_St} (K : zz_K p s m args c cX8_longNo 2 RX8 wsX8_longNo D (tysM cy) A (wM ad cy) []) {Qp : Int64 → zz_St → Prop} (hret : ∀ (r : Int64) (σ2 : zz_St), Qp r σ2 → ∀ (pc : Nat) (lv : List (Nat × Value)), decode cX8_longNo pc = .ok (.lreturn, 1) → zz_G p l e zrm8_longNo s m args below meth c Q D A (wM ad cy) 2 pc lv [.long r] σ2) (h : zq8_longNo v1 σ Qp) : zz_G p l e zrm8_longNo s m args below meth c Q D A (wM ad cy) 2 0 [(0, .ref (ad 0)), (1, .int v1)] [] σ := by
  unfold zq8_longNo at h
  refine zz_ldc2 K zlk_X8_longNo_1 dX8_longNo_0 ?_
  refine zz_aload_n K 0 dX8_longNo_3 rfl rfl ?_
  refine zz_iload_n K 1 dX8_longNo_4 rfl rfl ?_
  refine zz_callVi K zz_nw_nil [.int v1] (zc8_no l D ad cy v1 σ _ h) gX8_longNo_X8_no rfl ⟨rfl, rfl⟩ zds_yX8_no_v ⟨Nat.le_of_ble_eq_true rfl, Nat.le_of_ble_eq_true rfl⟩ (wM_at_0 ad cy _) rfl rfl rfl rfl (Nat.le_of_ble_eq_true rfl) dX8_longNo_5 (fun r3 g4 h => ?_)
  refine zz_i2l K dX8_longNo_8 ?_
  refine zz_lsub K dX8_longNo_9 ?_
  exact hret _ _ h _ _ dX8_longNo_10
set_option maxRecDepth 100000 in
theorem zc8_longNo (l : Launch) (D : va_G) (ad : Nat → Nat) (cy : Nat → ClassId) (v1 : Int32) (σ : zz_St) (Qp : Int64 → zz_St → Prop) (h : zq8_longNo v1 σ Qp) : zz_Ml l yX8_longNo wsX8_longNo zrm8_longNo D (tysM cy) (wM ad cy) [] [.ref (ad 0), .int v1] σ Qp :=
  zz_Ml.of zz_nw_nil (wM_ad ad cy) (by decide +kernel) rfl ⟨rfl, rfl⟩ (Nat.le_of_ble_eq_true rfl) (fun p e s m args below meth c A QW K hret => zu8_longNo_0 K  hret h)
theorem zin_X8_tileMany_X8 : ∀ w ∈ wsX80, w ∈ wsX8_tileMany := fun w h => List.mem_cons_of_mem _ (List.mem_append_right _ h)
theorem zlk_X8_tileMany_1 : Cond.fieldLink RX8 23 "SolidsRolledModel" "rows" "I" ∈ wsX8_tileMany := List.mem_of_getElem? (i := 1) rfl
theorem zlk_X8_tileMany_2 : Cond.fieldLink RX8 26 "SolidsRolledModel" "columns" "I" ∈ wsX8_tileMany := List.mem_of_getElem? (i := 2) rfl
abbrev zrm8_tileMany : Room := { frames := 0, cells := 0, slots := 0, locals := 0 }
set_option maxHeartbeats 4000000 in
set_option maxRecDepth 100000 in
theorem zu8_tileMany_0 {p : Program} {l : Launch} {e : Env} {s : State} {m : MethodId} {args : Array Value} {below : List Frame} {meth : Method} {c : Code} {Q : State → Prop} {D : va_G} {A : Nat → Prop} {ad : Nat → Nat} {cy : Nat → ClassId}  {σ : zz_St} (K : zz_K p s m args c cX8_tileMany 1 RX8 wsX8_tileMany D (tysM cy) A (wM ad cy) []) {Qp : Int32 → Prop} (hret : ∀ (r : Int32), narrow .int (.int r) = .int r → Qp r → ∀ (pc : Nat) (lv : List (Nat × Value)), decode cX8_tileMany pc = .ok (.ireturn, 1) → zz_G p l e zrm8_tileMany s m args below meth c Q D A (wM ad cy) 1 pc lv [.int r] σ) (h : zq8_tileMany σ Qp) : zz_G p l e zrm8_tileMany s m args below meth c Q D A (wM ad cy) 1 0 [(0, .ref (ad 0))] [] σ := by
  unfold zq8_tileMany at h
  refine zz_aload_n K 0 dX8_tileMany_0 rfl rfl ?_
  refine zg8_2 K zin_X8_tileMany_X8 zlk_X8_tileMany_1 dX8_tileMany_1 ?_
  refine zz_aload_n K 0 dX8_tileMany_4 rfl rfl ?_
  refine zg8_3 K zin_X8_tileMany_X8 zlk_X8_tileMany_2 dX8_tileMany_5 ?_
  refine zz_imul K dX8_tileMany_8 ?_
  exact hret _ rfl h _ _ dX8_tileMany_9
set_option maxRecDepth 100000 in
theorem zc8_tileMany (l : Launch) (D : va_G) (ad : Nat → Nat) (cy : Nat → ClassId)  (σ : zz_St) (Qp : Int32 → Prop) (h : zq8_tileMany σ Qp) : zz_Mi l yX8_tileMany wsX8_tileMany zrm8_tileMany D (tysM cy) (wM ad cy) [] [.ref (ad 0)] σ (fun r σ2 => σ2 = σ ∧ Qp r) :=
  zz_Mi.of zz_nw_nil (wM_ad ad cy) (by decide +kernel) rfl ⟨rfl, rfl⟩ (Nat.le_of_ble_eq_true rfl) (fun p e s m args below meth c A QW K hret => zu8_tileMany_0 K  (fun r hn hq pc lv hd => hret r σ hn ⟨rfl, hq⟩ pc lv hd) h)
theorem zds_yX8_in_s : yX8_in.cls ≠ "java/lang/invoke/MethodHandle" ∧ yX8_in.cls ≠ "java/lang/invoke/VarHandle" ∧ (parseMethodDescriptor yX8_in.desc).map (fun d => d.parameters.length) = some 3 := by decide +kernel
theorem zds_yX8_tileMany_v : yX8_tileMany.cls = RX8 ∧ yX8_tileMany.cls ≠ "java/lang/invoke/MethodHandle" ∧ yX8_tileMany.cls ≠ "java/lang/invoke/VarHandle" ∧ (parseMethodDescriptor yX8_tileMany.desc).map (fun d => d.parameters.length) = some 0 := by decide +kernel
abbrev zrm8_isTile : Room := { frames := 1, cells := 0, slots := 0, locals := 25 }
set_option maxHeartbeats 4000000 in
set_option maxRecDepth 100000 in
theorem zu8_isTile_0 {p : Program} {l : Launch} {e : Env} {s : State} {m : MethodId} {args : Array Value} {below : List Frame} {meth : Method} {c : Code} {Q : State → Prop} {D : va_G} {A : Nat → Prop} {ad : Nat → Nat} {cy : Nat → ClassId} {v1 : Int32} {σ : zz_St} (K : zz_K p s m args c cX8_isTile 2 RX8 wsX8_isTile D (tysM cy) A (wM ad cy) []) {Qp : Int32 → Prop} (hret : ∀ (r : Int32), narrow .boolean (.int r) = .int r → Qp r → ∀ (pc : Nat) (lv : List (Nat × Value)), decode cX8_isTile pc = .ok (.ireturn, 1) → zz_G p l e zrm8_isTile s m args below meth c Q D A (wM ad cy) 2 pc lv [.int r] σ) (h : zq8_isTile v1 σ Qp) : zz_G p l e zrm8_isTile s m args below meth c Q D A (wM ad cy) 2 0 [(0, .ref (ad 0)), (1, .int v1)] [] σ := by
  unfold zq8_isTile at h
  refine zz_iload_n K 1 dX8_isTile_0 rfl rfl ?_
  refine zz_i2l K dX8_isTile_1 ?_
  refine zz_lconst K (v := (0 : Int64)) dX8_isTile_2 rfl ?_
  refine zz_aload_n K 0 dX8_isTile_3 rfl rfl ?_
  refine zz_callVi1 K zz_nw_nil [] (zc8_tileMany l D ad cy  σ _ h) gX8_isTile_X8_tileMany rfl ⟨rfl, rfl⟩ zds_yX8_tileMany_v ⟨Nat.le_of_ble_eq_true rfl, Nat.le_of_ble_eq_true rfl⟩ (wM_at_0 ad cy _) rfl rfl rfl rfl (Nat.le_of_ble_eq_true rfl) dX8_isTile_4 (fun r3 h => ?_)
  refine zz_iconst K dX8_isTile_7 zci_1 ?_
  refine zz_isub K dX8_isTile_8 ?_
  refine zz_i2l K dX8_isTile_9 ?_
  refine zz_callSi1 K zz_nw_nil [.long (v1.toInt64), .long (0 : Int64), .long ((r3 - (1 : Int32)).toInt64)] (zc8_in l D ad cy (v1.toInt64) (0 : Int64) ((r3 - (1 : Int32)).toInt64) σ _ h) gX8_isTile_X8_in rfl ⟨rfl, rfl⟩ zds_yX8_in_s ⟨Nat.le_of_ble_eq_true rfl, Nat.le_of_ble_eq_true rfl⟩ rfl rfl (Nat.le_of_ble_eq_true rfl) dX8_isTile_10 (fun r4 h => ?_)
  obtain ⟨hnb, h⟩ := h
  exact hret _ (zz_nb hnb) h _ _ dX8_isTile_13
set_option maxRecDepth 100000 in
theorem zc8_isTile (l : Launch) (D : va_G) (ad : Nat → Nat) (cy : Nat → ClassId) (v1 : Int32) (σ : zz_St) (Qp : Int32 → Prop) (h : zq8_isTile v1 σ Qp) : zz_Mi l yX8_isTile wsX8_isTile zrm8_isTile D (tysM cy) (wM ad cy) [] [.ref (ad 0), .int v1] σ (fun r σ2 => σ2 = σ ∧ Qp r) :=
  zz_Mi.of zz_nw_nil (wM_ad ad cy) (by decide +kernel) rfl ⟨rfl, rfl⟩ (Nat.le_of_ble_eq_true rfl) (fun p e s m args below meth c A QW K hret => zu8_isTile_0 K  (fun r hn hq pc lv hd => hret r σ hn ⟨rfl, hq⟩ pc lv hd) h)
theorem zin_X8_isTetra_X8 : ∀ w ∈ wsX80, w ∈ wsX8_isTetra := fun w h => List.mem_cons_of_mem _ (List.mem_append_right _ h)
theorem zlk_X8_isTetra_1 : Cond.fieldLink RX8 133 "SolidsRolledModel" "kind" "I" ∈ wsX8_isTetra := List.mem_of_getElem? (i := 1) rfl
theorem zci_4 : Int32.ofInt (4) = (4 : Int32) := by decide
abbrev zrm8_isTetra : Room := { frames := 0, cells := 0, slots := 0, locals := 0 }
set_option maxHeartbeats 4000000 in
set_option maxRecDepth 100000 in
theorem zu8_isTetra_0 {p : Program} {l : Launch} {e : Env} {s : State} {m : MethodId} {args : Array Value} {below : List Frame} {meth : Method} {c : Code} {Q : State → Prop} {D : va_G} {A : Nat → Prop} {ad : Nat → Nat} {cy : Nat → ClassId}  {σ : zz_St} (K : zz_K p s m args c cX8_isTetra 1 RX8 wsX8_isTetra D (tysM cy) A (wM ad cy) []) {Qp : Int32 → Prop} (hret : ∀ (r : Int32), narrow .boolean (.int r) = .int r → Qp r → ∀ (pc : Nat) (lv : List (Nat × Value)), decode cX8_isTetra pc = .ok (.ireturn, 1) → zz_G p l e zrm8_isTetra s m args below meth c Q D A (wM ad cy) 1 pc lv [.int r] σ) (h : zq8_isTetra σ Qp) : zz_G p l e zrm8_isTetra s m args below meth c Q D A (wM ad cy) 1 0 [(0, .ref (ad 0))] [] σ := by
  unfold zq8_isTetra at h
  refine zz_aload_n K 0 dX8_isTetra_0 rfl rfl ?_
  refine zg8_7 K zin_X8_isTetra_X8 zlk_X8_isTetra_1 dX8_isTetra_1 ?_
  refine zz_iconst K dX8_isTetra_4 zci_4 ?_
  refine zz_icmp_lt K 12 dX8_isTetra_5 rfl (fun c2 => ?_) (fun c2 => ?_)
  · have h := (And.left h) c2
    refine zz_iconst K dX8_isTetra_12 zci_0 ?_
    exact hret _ rfl h _ _ dX8_isTetra_13
  · have h := (And.right h) c2
    refine zz_iconst K dX8_isTetra_8 zci_1 ?_
    refine zz_goto K 13 dX8_isTetra_9 rfl ?_
    exact hret _ rfl h _ _ dX8_isTetra_13
set_option maxRecDepth 100000 in
theorem zc8_isTetra (l : Launch) (D : va_G) (ad : Nat → Nat) (cy : Nat → ClassId)  (σ : zz_St) (Qp : Int32 → Prop) (h : zq8_isTetra σ Qp) : zz_Mi l yX8_isTetra wsX8_isTetra zrm8_isTetra D (tysM cy) (wM ad cy) [] [.ref (ad 0)] σ (fun r σ2 => σ2 = σ ∧ Qp r) :=
  zz_Mi.of zz_nw_nil (wM_ad ad cy) (by decide +kernel) rfl ⟨rfl, rfl⟩ (Nat.le_of_ble_eq_true rfl) (fun p e s m args below meth c A QW K hret => zu8_isTetra_0 K  (fun r hn hq pc lv hd => hret r σ hn ⟨rfl, hq⟩ pc lv hd) h)
theorem zin_X8_isBlock_X8 : ∀ w ∈ wsX80, w ∈ wsX8_isBlock := fun w h => List.mem_cons_of_mem _ (List.mem_append_right _ h)
theorem zlk_X8_isBlock_1 : Cond.fieldLink RX8 133 "SolidsRolledModel" "kind" "I" ∈ wsX8_isBlock := List.mem_of_getElem? (i := 1) rfl
theorem zci_2 : Int32.ofInt (2) = (2 : Int32) := by decide
theorem zci_3 : Int32.ofInt (3) = (3 : Int32) := by decide
abbrev zrm8_isBlock : Room := { frames := 0, cells := 0, slots := 0, locals := 0 }
set_option maxHeartbeats 4000000 in
set_option maxRecDepth 100000 in
theorem zu8_isBlock_0 {p : Program} {l : Launch} {e : Env} {s : State} {m : MethodId} {args : Array Value} {below : List Frame} {meth : Method} {c : Code} {Q : State → Prop} {D : va_G} {A : Nat → Prop} {ad : Nat → Nat} {cy : Nat → ClassId}  {σ : zz_St} (K : zz_K p s m args c cX8_isBlock 1 RX8 wsX8_isBlock D (tysM cy) A (wM ad cy) []) {Qp : Int32 → Prop} (hret : ∀ (r : Int32), narrow .boolean (.int r) = .int r → Qp r → ∀ (pc : Nat) (lv : List (Nat × Value)), decode cX8_isBlock pc = .ok (.ireturn, 1) → zz_G p l e zrm8_isBlock s m args below meth c Q D A (wM ad cy) 1 pc lv [.int r] σ) (h : zq8_isBlock σ Qp) : zz_G p l e zrm8_isBlock s m args below meth c Q D A (wM ad cy) 1 0 [(0, .ref (ad 0))] [] σ := by
  unfold zq8_isBlock at h
  refine zz_aload_n K 0 dX8_isBlock_0 rfl rfl ?_
  refine zg8_7 K zin_X8_isBlock_X8 zlk_X8_isBlock_1 dX8_isBlock_1 ?_
  refine zz_iconst K dX8_isBlock_4 zci_2 ?_
  refine zz_icmp_eq K 16 dX8_isBlock_5 rfl (fun c3 => ?_) (fun c3 => ?_)
  · have h := (And.left h) c3
    refine zz_iconst K dX8_isBlock_16 zci_1 ?_
    refine zz_goto K 21 dX8_isBlock_17 rfl ?_
    exact hret _ rfl h _ _ dX8_isBlock_21
  · have h := (And.right h) c3
    refine zz_aload_n K 0 dX8_isBlock_8 rfl rfl ?_
    refine zg8_7 K zin_X8_isBlock_X8 zlk_X8_isBlock_1 dX8_isBlock_9 ?_
    refine zz_iconst K dX8_isBlock_12 zci_3 ?_
    refine zz_icmp_ne K 20 dX8_isBlock_13 rfl (fun c4 => ?_) (fun c4 => ?_)
    · have h := (And.left h) c4
      refine zz_iconst K dX8_isBlock_20 zci_0 ?_
      exact hret _ rfl h _ _ dX8_isBlock_21
    · have h := (And.right h) c4
      refine zz_iconst K dX8_isBlock_16 zci_1 ?_
      refine zz_goto K 21 dX8_isBlock_17 rfl ?_
      exact hret _ rfl h _ _ dX8_isBlock_21
set_option maxRecDepth 100000 in
theorem zc8_isBlock (l : Launch) (D : va_G) (ad : Nat → Nat) (cy : Nat → ClassId)  (σ : zz_St) (Qp : Int32 → Prop) (h : zq8_isBlock σ Qp) : zz_Mi l yX8_isBlock wsX8_isBlock zrm8_isBlock D (tysM cy) (wM ad cy) [] [.ref (ad 0)] σ (fun r σ2 => σ2 = σ ∧ Qp r) :=
  zz_Mi.of zz_nw_nil (wM_ad ad cy) (by decide +kernel) rfl ⟨rfl, rfl⟩ (Nat.le_of_ble_eq_true rfl) (fun p e s m args below meth c A QW K hret => zu8_isBlock_0 K  (fun r hn hq pc lv hd => hret r σ hn ⟨rfl, hq⟩ pc lv hd) h)
theorem zds_yX8_isTetra_v : yX8_isTetra.cls = RX8 ∧ yX8_isTetra.cls ≠ "java/lang/invoke/MethodHandle" ∧ yX8_isTetra.cls ≠ "java/lang/invoke/VarHandle" ∧ (parseMethodDescriptor yX8_isTetra.desc).map (fun d => d.parameters.length) = some 0 := by decide +kernel
abbrev zrm8_isPlace : Room := { frames := 1, cells := 0, slots := 0, locals := 25 }
set_option maxHeartbeats 4000000 in
set_option maxRecDepth 100000 in
theorem zu8_isPlace_15 {p : Program} {l : Launch} {e : Env} {s : State} {m : MethodId} {args : Array Value} {below : List Frame} {meth : Method} {c : Code} {Q : State → Prop} {D : va_G} {A : Nat → Prop} {ad : Nat → Nat} {cy : Nat → ClassId} {s0 : Int32} {s1 : Int64} {s2 : Int64} {σ : zz_St} (K : zz_K p s m args c cX8_isPlace 2 RX8 wsX8_isPlace D (tysM cy) A (wM ad cy) []) {Qp : Int32 → Prop} (hret : ∀ (r : Int32), narrow .boolean (.int r) = .int r → Qp r → ∀ (pc : Nat) (lv : List (Nat × Value)), decode cX8_isPlace pc = .ok (.ireturn, 1) → zz_G p l e zrm8_isPlace s m args below meth c Q D A (wM ad cy) 2 pc lv [.int r] σ) (h : zq8_isPlace_15 s0 s1 s2 σ Qp) : zz_G p l e zrm8_isPlace s m args below meth c Q D A (wM ad cy) 2 15 [(0, .ref (ad 0))] [.int s0, .long s1, .long s2] σ := by
  unfold zq8_isPlace_15 at h
  refine zz_aload_n K 0 dX8_isPlace_15 rfl rfl ?_
  refine zz_callVi1 K zz_nw_nil [] (zc8_tileMany l D ad cy  σ _ h) gX8_isPlace_X8_tileMany rfl ⟨rfl, rfl⟩ zds_yX8_tileMany_v ⟨Nat.le_of_ble_eq_true rfl, Nat.le_of_ble_eq_true rfl⟩ (wM_at_0 ad cy _) rfl rfl rfl rfl (Nat.le_of_ble_eq_true rfl) dX8_isPlace_16 (fun r5 h => ?_)
  refine zz_imul K dX8_isPlace_19 ?_
  refine zz_iconst K dX8_isPlace_20 zci_1 ?_
  refine zz_isub K dX8_isPlace_21 ?_
  refine zz_i2l K dX8_isPlace_22 ?_
  refine zz_callSi1 K zz_nw_nil [.long s2, .long s1, .long (((s0 * r5) - (1 : Int32)).toInt64)] (zc8_in l D ad cy s2 s1 (((s0 * r5) - (1 : Int32)).toInt64) σ _ h) gX8_isPlace_X8_in rfl ⟨rfl, rfl⟩ zds_yX8_in_s ⟨Nat.le_of_ble_eq_true rfl, Nat.le_of_ble_eq_true rfl⟩ rfl rfl (Nat.le_of_ble_eq_true rfl) dX8_isPlace_23 (fun r6 h => ?_)
  obtain ⟨hnb, h⟩ := h
  exact hret _ (zz_nb hnb) h _ _ dX8_isPlace_26
set_option maxHeartbeats 4000000 in
set_option maxRecDepth 100000 in
theorem zu8_isPlace_0 {p : Program} {l : Launch} {e : Env} {s : State} {m : MethodId} {args : Array Value} {below : List Frame} {meth : Method} {c : Code} {Q : State → Prop} {D : va_G} {A : Nat → Prop} {ad : Nat → Nat} {cy : Nat → ClassId} {v1 : Int32} {σ : zz_St} (K : zz_K p s m args c cX8_isPlace 2 RX8 wsX8_isPlace D (tysM cy) A (wM ad cy) []) {Qp : Int32 → Prop} (hret : ∀ (r : Int32), narrow .boolean (.int r) = .int r → Qp r → ∀ (pc : Nat) (lv : List (Nat × Value)), decode cX8_isPlace pc = .ok (.ireturn, 1) → zz_G p l e zrm8_isPlace s m args below meth c Q D A (wM ad cy) 2 pc lv [.int r] σ) (h : zq8_isPlace v1 σ Qp) : zz_G p l e zrm8_isPlace s m args below meth c Q D A (wM ad cy) 2 0 [(0, .ref (ad 0)), (1, .int v1)] [] σ := by
  unfold zq8_isPlace at h
  refine zz_iload_n K 1 dX8_isPlace_0 rfl rfl ?_
  refine zz_i2l K dX8_isPlace_1 ?_
  refine zz_lconst K (v := (0 : Int64)) dX8_isPlace_2 rfl ?_
  refine zz_aload_n K 0 dX8_isPlace_3 rfl rfl ?_
  refine zz_callVi1 K zz_nw_nil [] (zc8_isTetra l D ad cy  σ _ h) gX8_isPlace_X8_isTetra rfl ⟨rfl, rfl⟩ zds_yX8_isTetra_v ⟨Nat.le_of_ble_eq_true rfl, Nat.le_of_ble_eq_true rfl⟩ (wM_at_0 ad cy _) rfl rfl rfl rfl (Nat.le_of_ble_eq_true rfl) dX8_isPlace_4 (fun r7 h => ?_)
  refine zz_if_eq K 14 dX8_isPlace_7 rfl (fun c8 => ?_) (fun c8 => ?_)
  · have h := (And.left h) c8
    refine zz_iconst K dX8_isPlace_14 zci_1 ?_
    refine zz_sub [0] [(0, .ref (ad 0))] rfl ?_
    exact zu8_isPlace_15 K hret h
  · have h := (And.right h) c8
    refine zz_iconst K dX8_isPlace_10 zci_2 ?_
    refine zz_goto K 15 dX8_isPlace_11 rfl ?_
    refine zz_sub [0] [(0, .ref (ad 0))] rfl ?_
    exact zu8_isPlace_15 K hret h
set_option maxRecDepth 100000 in
theorem zc8_isPlace (l : Launch) (D : va_G) (ad : Nat → Nat) (cy : Nat → ClassId) (v1 : Int32) (σ : zz_St) (Qp : Int32 → Prop) (h : zq8_isPlace v1 σ Qp) : zz_Mi l yX8_isPlace wsX8_isPlace zrm8_isPlace D (tysM cy) (wM ad cy) [] [.ref (ad 0), .int v1] σ (fun r σ2 => σ2 = σ ∧ Qp r) :=
  zz_Mi.of zz_nw_nil (wM_ad ad cy) (by decide +kernel) rfl ⟨rfl, rfl⟩ (Nat.le_of_ble_eq_true rfl) (fun p e s m args below meth c A QW K hret => zu8_isPlace_0 K  (fun r hn hq pc lv hd => hret r σ hn ⟨rfl, hq⟩ pc lv hd) h)
theorem zlk_X8_isFace_2 : Cond.constantLong RX8 142 (5) ∈ wsX8_isFace := List.mem_of_getElem? (i := 2) rfl
theorem zlk_X8_isFace_1 : Cond.constantLong RX8 140 (3) ∈ wsX8_isFace := List.mem_of_getElem? (i := 1) rfl
abbrev zrm8_isFace : Room := { frames := 1, cells := 0, slots := 0, locals := 25 }
set_option maxHeartbeats 4000000 in
set_option maxRecDepth 100000 in
theorem zu8_isFace_19 {p : Program} {l : Launch} {e : Env} {s : State} {m : MethodId} {args : Array Value} {below : List Frame} {meth : Method} {c : Code} {Q : State → Prop} {D : va_G} {A : Nat → Prop} {ad : Nat → Nat} {cy : Nat → ClassId} {s0 : Int64} {s1 : Int64} {s2 : Int64} {σ : zz_St} (K : zz_K p s m args c cX8_isFace 2 RX8 wsX8_isFace D (tysM cy) A (wM ad cy) []) {Qp : Int32 → Prop} (hret : ∀ (r : Int32), narrow .boolean (.int r) = .int r → Qp r → ∀ (pc : Nat) (lv : List (Nat × Value)), decode cX8_isFace pc = .ok (.ireturn, 1) → zz_G p l e zrm8_isFace s m args below meth c Q D A (wM ad cy) 2 pc lv [.int r] σ) (h : zq8_isFace_19 s0 s1 s2 σ Qp) : zz_G p l e zrm8_isFace s m args below meth c Q D A (wM ad cy) 2 19 [] [.long s0, .long s1, .long s2] σ := by
  unfold zq8_isFace_19 at h
  refine zz_callSi1 K zz_nw_nil [.long s2, .long s1, .long s0] (zc8_in l D ad cy s2 s1 s0 σ _ h) gX8_isFace_X8_in rfl ⟨rfl, rfl⟩ zds_yX8_in_s ⟨Nat.le_of_ble_eq_true rfl, Nat.le_of_ble_eq_true rfl⟩ rfl rfl (Nat.le_of_ble_eq_true rfl) dX8_isFace_19 (fun r4 h => ?_)
  obtain ⟨hnb, h⟩ := h
  exact hret _ (zz_nb hnb) h _ _ dX8_isFace_22
set_option maxHeartbeats 4000000 in
set_option maxRecDepth 100000 in
theorem zu8_isFace_0 {p : Program} {l : Launch} {e : Env} {s : State} {m : MethodId} {args : Array Value} {below : List Frame} {meth : Method} {c : Code} {Q : State → Prop} {D : va_G} {A : Nat → Prop} {ad : Nat → Nat} {cy : Nat → ClassId} {v1 : Int32} {σ : zz_St} (K : zz_K p s m args c cX8_isFace 2 RX8 wsX8_isFace D (tysM cy) A (wM ad cy) []) {Qp : Int32 → Prop} (hret : ∀ (r : Int32), narrow .boolean (.int r) = .int r → Qp r → ∀ (pc : Nat) (lv : List (Nat × Value)), decode cX8_isFace pc = .ok (.ireturn, 1) → zz_G p l e zrm8_isFace s m args below meth c Q D A (wM ad cy) 2 pc lv [.int r] σ) (h : zq8_isFace v1 σ Qp) : zz_G p l e zrm8_isFace s m args below meth c Q D A (wM ad cy) 2 0 [(0, .ref (ad 0)), (1, .int v1)] [] σ := by
  unfold zq8_isFace at h
  refine zz_iload_n K 1 dX8_isFace_0 rfl rfl ?_
  refine zz_i2l K dX8_isFace_1 ?_
  refine zz_lconst K (v := (0 : Int64)) dX8_isFace_2 rfl ?_
  refine zz_aload_n K 0 dX8_isFace_3 rfl rfl ?_
  refine zz_callVi1 K zz_nw_nil [] (zc8_isTetra l D ad cy  σ _ h) gX8_isFace_X8_isTetra rfl ⟨rfl, rfl⟩ zds_yX8_isTetra_v ⟨Nat.le_of_ble_eq_true rfl, Nat.le_of_ble_eq_true rfl⟩ (wM_at_0 ad cy _) rfl rfl rfl rfl (Nat.le_of_ble_eq_true rfl) dX8_isFace_4 (fun r5 h => ?_)
  refine zz_if_eq K 16 dX8_isFace_7 rfl (fun c6 => ?_) (fun c6 => ?_)
  · have h := (And.left h) c6
    refine zz_ldc2 K zlk_X8_isFace_2 dX8_isFace_16 ?_
    refine zz_sub [] [] rfl ?_
    exact zu8_isFace_19 K hret h
  · have h := (And.right h) c6
    refine zz_ldc2 K zlk_X8_isFace_1 dX8_isFace_10 ?_
    refine zz_goto K 19 dX8_isFace_13 rfl ?_
    refine zz_sub [] [] rfl ?_
    exact zu8_isFace_19 K hret h
set_option maxRecDepth 100000 in
theorem zc8_isFace (l : Launch) (D : va_G) (ad : Nat → Nat) (cy : Nat → ClassId) (v1 : Int32) (σ : zz_St) (Qp : Int32 → Prop) (h : zq8_isFace v1 σ Qp) : zz_Mi l yX8_isFace wsX8_isFace zrm8_isFace D (tysM cy) (wM ad cy) [] [.ref (ad 0), .int v1] σ (fun r σ2 => σ2 = σ ∧ Qp r) :=
  zz_Mi.of zz_nw_nil (wM_ad ad cy) (by decide +kernel) rfl ⟨rfl, rfl⟩ (Nat.le_of_ble_eq_true rfl) (fun p e s m args below meth c A QW K hret => zu8_isFace_0 K  (fun r hn hq pc lv hd => hret r σ hn ⟨rfl, hq⟩ pc lv hd) h)
theorem zin_X8_below_X8 : ∀ w ∈ wsX80, w ∈ wsX8_below := fun w h => List.mem_cons_of_mem _ (List.mem_append_right _ h)
theorem zlk_X8_below_1 : Cond.fieldLink RX8 42 "SolidsRolledModel" "faces" "[I" ∈ wsX8_below := List.mem_of_getElem? (i := 1) rfl
abbrev zrm8_below : Room := { frames := 1, cells := 0, slots := 0, locals := 20 }
set_option maxHeartbeats 4000000 in
set_option maxRecDepth 100000 in
theorem zu8_below_0 {p : Program} {l : Launch} {e : Env} {s : State} {m : MethodId} {args : Array Value} {below : List Frame} {meth : Method} {c : Code} {Q : State → Prop} {D : va_G} {A : Nat → Prop} {ad : Nat → Nat} {cy : Nat → ClassId}  {σ : zz_St} (K : zz_K p s m args c cX8_below 1 RX8 wsX8_below D (tysM cy) A (wM ad cy) []) {Qp : Int32 → Prop} (hret : ∀ (r : Int32), narrow .int (.int r) = .int r → Qp r → ∀ (pc : Nat) (lv : List (Nat × Value)), decode cX8_below pc = .ok (.ireturn, 1) → zz_G p l e zrm8_below s m args below meth c Q D A (wM ad cy) 1 pc lv [.int r] σ) (h : zq8_below σ Qp) : zz_G p l e zrm8_below s m args below meth c Q D A (wM ad cy) 1 0 [(0, .ref (ad 0))] [] σ := by
  unfold zq8_below at h
  refine zz_aload_n K 0 dX8_below_0 rfl rfl ?_
  refine zz_callVi1 K zz_nw_nil [] (zc8_isTetra l D ad cy  σ _ h) gX8_below_X8_isTetra rfl ⟨rfl, rfl⟩ zds_yX8_isTetra_v ⟨Nat.le_of_ble_eq_true rfl, Nat.le_of_ble_eq_true rfl⟩ (wM_at_0 ad cy _) rfl rfl rfl rfl (Nat.le_of_ble_eq_true rfl) dX8_below_1 (fun r3 h => ?_)
  refine zz_if_eq K 16 dX8_below_4 rfl (fun c4 => ?_) (fun c4 => ?_)
  · have h := (And.left h) c4
    refine zz_aload_n K 0 dX8_below_16 rfl rfl ?_
    refine zg8_10 K zin_X8_below_X8 zlk_X8_below_1 dX8_below_17 ?_
    refine zz_iconst K dX8_below_20 zci_1 ?_
    obtain ⟨hin, h⟩ := h
    refine zz_iaload K 0 (wM_at_10 ad cy σ) rfl hin dX8_below_21 ?_
    exact hret _ rfl h _ _ dX8_below_22
  · have h := (And.right h) c4
    refine zz_aload_n K 0 dX8_below_7 rfl rfl ?_
    refine zg8_10 K zin_X8_below_X8 zlk_X8_below_1 dX8_below_8 ?_
    refine zz_iconst K dX8_below_11 zci_0 ?_
    obtain ⟨hin, h⟩ := h
    refine zz_iaload K 0 (wM_at_10 ad cy σ) rfl hin dX8_below_12 ?_
    refine zz_goto K 22 dX8_below_13 rfl ?_
    exact hret _ rfl h _ _ dX8_below_22
set_option maxRecDepth 100000 in
theorem zc8_below (l : Launch) (D : va_G) (ad : Nat → Nat) (cy : Nat → ClassId)  (σ : zz_St) (Qp : Int32 → Prop) (h : zq8_below σ Qp) : zz_Mi l yX8_below wsX8_below zrm8_below D (tysM cy) (wM ad cy) [] [.ref (ad 0)] σ (fun r σ2 => σ2 = σ ∧ Qp r) :=
  zz_Mi.of zz_nw_nil (wM_ad ad cy) (by decide +kernel) rfl ⟨rfl, rfl⟩ (Nat.le_of_ble_eq_true rfl) (fun p e s m args below meth c A QW K hret => zu8_below_0 K  (fun r hn hq pc lv hd => hret r σ hn ⟨rfl, hq⟩ pc lv hd) h)
theorem zin_X8_lying_X8 : ∀ w ∈ wsX80, w ∈ wsX8_lying := fun w h => List.mem_cons_of_mem _ (List.mem_append_right _ h)
theorem zlk_X8_lying_1 : Cond.fieldLink RX8 42 "SolidsRolledModel" "faces" "[I" ∈ wsX8_lying := List.mem_of_getElem? (i := 1) rfl
theorem zci_5 : Int32.ofInt (5) = (5 : Int32) := by decide
abbrev zrm8_lying : Room := { frames := 0, cells := 0, slots := 0, locals := 0 }
set_option maxHeartbeats 4000000 in
set_option maxRecDepth 100000 in
theorem zu8_lying_0 {p : Program} {l : Launch} {e : Env} {s : State} {m : MethodId} {args : Array Value} {below : List Frame} {meth : Method} {c : Code} {Q : State → Prop} {D : va_G} {A : Nat → Prop} {ad : Nat → Nat} {cy : Nat → ClassId}  {σ : zz_St} (K : zz_K p s m args c cX8_lying 1 RX8 wsX8_lying D (tysM cy) A (wM ad cy) []) {Qp : Int32 → Prop} (hret : ∀ (r : Int32), narrow .int (.int r) = .int r → Qp r → ∀ (pc : Nat) (lv : List (Nat × Value)), decode cX8_lying pc = .ok (.ireturn, 1) → zz_G p l e zrm8_lying s m args below meth c Q D A (wM ad cy) 1 pc lv [.int r] σ) (h : zq8_lying σ Qp) : zz_G p l e zrm8_lying s m args below meth c Q D A (wM ad cy) 1 0 [(0, .ref (ad 0))] [] σ := by
  unfold zq8_lying at h
  refine zz_aload_n K 0 dX8_lying_0 rfl rfl ?_
  refine zg8_10 K zin_X8_lying_X8 zlk_X8_lying_1 dX8_lying_1 ?_
  refine zz_iconst K dX8_lying_4 zci_0 ?_
  obtain ⟨hin, h⟩ := h
  refine zz_iaload K 0 (wM_at_10 ad cy σ) rfl hin dX8_lying_5 ?_
  refine zz_iconst K dX8_lying_6 zci_2 ?_
  refine zz_icmp_lt K 20 dX8_lying_7 rfl (fun c5 => ?_) (fun c5 => ?_)
  · have h := (And.left h) c5
    refine zz_iconst K dX8_lying_20 zci_0 ?_
    exact hret _ rfl h _ _ dX8_lying_21
  · have h := (And.right h) c5
    refine zz_aload_n K 0 dX8_lying_10 rfl rfl ?_
    refine zg8_10 K zin_X8_lying_X8 zlk_X8_lying_1 dX8_lying_11 ?_
    refine zz_iconst K dX8_lying_14 zci_1 ?_
    obtain ⟨hin, h⟩ := h
    refine zz_iaload K 0 (wM_at_10 ad cy σ) rfl hin dX8_lying_15 ?_
    refine zz_iconst K dX8_lying_16 zci_2 ?_
    refine zz_icmp_ge K 22 dX8_lying_17 rfl (fun c6 => ?_) (fun c6 => ?_)
    · have h := (And.left h) c6
      refine zz_aload_n K 0 dX8_lying_22 rfl rfl ?_
      refine zg8_10 K zin_X8_lying_X8 zlk_X8_lying_1 dX8_lying_23 ?_
      refine zz_iconst K dX8_lying_26 zci_3 ?_
      obtain ⟨hin, h⟩ := h
      refine zz_iaload K 0 (wM_at_10 ad cy σ) rfl hin dX8_lying_27 ?_
      refine zz_iconst K dX8_lying_28 zci_2 ?_
      refine zz_icmp_lt K 42 dX8_lying_29 rfl (fun c7 => ?_) (fun c7 => ?_)
      · have h := (And.left h) c7
        refine zz_iconst K dX8_lying_42 zci_1 ?_
        refine zz_goto K 47 dX8_lying_43 rfl ?_
        exact hret _ rfl h _ _ dX8_lying_47
      · have h := (And.right h) c7
        refine zz_aload_n K 0 dX8_lying_32 rfl rfl ?_
        refine zg8_10 K zin_X8_lying_X8 zlk_X8_lying_1 dX8_lying_33 ?_
        refine zz_iconst K dX8_lying_36 zci_5 ?_
        obtain ⟨hin, h⟩ := h
        refine zz_iaload K 0 (wM_at_10 ad cy σ) rfl hin dX8_lying_37 ?_
        refine zz_iconst K dX8_lying_38 zci_2 ?_
        refine zz_icmp_ge K 46 dX8_lying_39 rfl (fun c8 => ?_) (fun c8 => ?_)
        · have h := (And.left h) c8
          refine zz_iconst K dX8_lying_46 zci_2 ?_
          exact hret _ rfl h _ _ dX8_lying_47
        · have h := (And.right h) c8
          refine zz_iconst K dX8_lying_42 zci_1 ?_
          refine zz_goto K 47 dX8_lying_43 rfl ?_
          exact hret _ rfl h _ _ dX8_lying_47
    · have h := (And.right h) c6
      refine zz_iconst K dX8_lying_20 zci_0 ?_
      exact hret _ rfl h _ _ dX8_lying_21
set_option maxRecDepth 100000 in
theorem zc8_lying (l : Launch) (D : va_G) (ad : Nat → Nat) (cy : Nat → ClassId)  (σ : zz_St) (Qp : Int32 → Prop) (h : zq8_lying σ Qp) : zz_Mi l yX8_lying wsX8_lying zrm8_lying D (tysM cy) (wM ad cy) [] [.ref (ad 0)] σ (fun r σ2 => σ2 = σ ∧ Qp r) :=
  zz_Mi.of zz_nw_nil (wM_ad ad cy) (by decide +kernel) rfl ⟨rfl, rfl⟩ (Nat.le_of_ble_eq_true rfl) (fun p e s m args below meth c A QW K hret => zu8_lying_0 K  (fun r hn hq pc lv hd => hret r σ hn ⟨rfl, hq⟩ pc lv hd) h)
theorem zin_X8_tellsUnder_X8 : ∀ w ∈ wsX80, w ∈ wsX8_tellsUnder := fun w h => List.mem_cons_of_mem _ (List.mem_append_right _ h)
theorem zlk_X8_tellsUnder_1 : Cond.fieldLink RX8 144 "SolidsRolledModel" "underMany" "I" ∈ wsX8_tellsUnder := List.mem_of_getElem? (i := 1) rfl
theorem zlk_X8_tellsUnder_2 : Cond.fieldLink RX8 45 "SolidsRolledModel" "under" "[I" ∈ wsX8_tellsUnder := List.mem_of_getElem? (i := 2) rfl
theorem zlk_X8_tellsUnder_3 : Cond.fieldLink RX8 147 "SolidsRolledModel" "place" "I" ∈ wsX8_tellsUnder := List.mem_of_getElem? (i := 3) rfl
theorem zlk_X8_tellsUnder_4 : Cond.fieldLink RX8 26 "SolidsRolledModel" "columns" "I" ∈ wsX8_tellsUnder := List.mem_of_getElem? (i := 4) rfl
theorem zlk_X8_tellsUnder_5 : Cond.fieldLink RX8 23 "SolidsRolledModel" "rows" "I" ∈ wsX8_tellsUnder := List.mem_of_getElem? (i := 5) rfl
theorem zds_yX8_lying_v : yX8_lying.cls = RX8 ∧ yX8_lying.cls ≠ "java/lang/invoke/MethodHandle" ∧ yX8_lying.cls ≠ "java/lang/invoke/VarHandle" ∧ (parseMethodDescriptor yX8_lying.desc).map (fun d => d.parameters.length) = some 0 := by decide +kernel
theorem zds_yX8_isBlock_v : yX8_isBlock.cls = RX8 ∧ yX8_isBlock.cls ≠ "java/lang/invoke/MethodHandle" ∧ yX8_isBlock.cls ≠ "java/lang/invoke/VarHandle" ∧ (parseMethodDescriptor yX8_isBlock.desc).map (fun d => d.parameters.length) = some 0 := by decide +kernel
theorem zds_yX8_isTile_v : yX8_isTile.cls = RX8 ∧ yX8_isTile.cls ≠ "java/lang/invoke/MethodHandle" ∧ yX8_isTile.cls ≠ "java/lang/invoke/VarHandle" ∧ (parseMethodDescriptor yX8_isTile.desc).map (fun d => d.parameters.length) = some 1 := by decide +kernel
abbrev zrm8_tellsUnder : Room := { frames := 2, cells := 0, slots := 0, locals := 46 }
set_option maxHeartbeats 4000000 in
set_option maxRecDepth 100000 in
theorem zu8_tellsUnder_116 {p : Program} {l : Launch} {e : Env} {s : State} {m : MethodId} {args : Array Value} {below : List Frame} {meth : Method} {c : Code} {Q : State → Prop} {D : va_G} {A : Nat → Prop} {ad : Nat → Nat} {cy : Nat → ClassId} {v1 : Int32} {s0 : Int32} {s1 : Int32} {σ : zz_St} (K : zz_K p s m args c cX8_tellsUnder 2 RX8 wsX8_tellsUnder D (tysM cy) A (wM ad cy) []) {Qp : Int32 → zz_St → Prop} (hret : ∀ (r : Int32) (σ2 : zz_St), narrow .boolean (.int r) = .int r → Qp r σ2 → ∀ (pc : Nat) (lv : List (Nat × Value)), decode cX8_tellsUnder pc = .ok (.ireturn, 1) → zz_G p l e zrm8_tellsUnder s m args below meth c Q D A (wM ad cy) 2 pc lv [.int r] σ2) (h : zq8_tellsUnder_116 v1 s0 s1 σ Qp) : zz_G p l e zrm8_tellsUnder s m args below meth c Q D A (wM ad cy) 2 116 [(0, .ref (ad 0)), (1, .int v1)] [.int s0, .int s1, .ref (ad 11)] σ := by
  unfold zq8_tellsUnder_116 at h
  obtain ⟨hin, h⟩ := h
  refine zz_iastore K 0 (σ2 := zz_A σ 11 (upd ((σ).2.1 11) s1.toNatClampNeg s0)) (wM_at_11 ad cy σ) (wM_set_11 ad cy σ _) rfl hin dX8_tellsUnder_116 ?_
  refine zz_nms (fun g20 eg20 => ?_)
  have h := h g20 eg20
  refine zz_aload_n K 0 dX8_tellsUnder_117 rfl rfl ?_
  refine zz_iconst K dX8_tellsUnder_118 zci_2 ?_
  refine zp8_12 K zin_X8_tellsUnder_X8 zlk_X8_tellsUnder_1 dX8_tellsUnder_119 ?_
  refine zz_nms (fun g21 eg21 => ?_)
  have h := h g21 eg21
  refine zz_iload_n K 1 dX8_tellsUnder_122 rfl rfl ?_
  refine zz_iconst K dX8_tellsUnder_123 zci_1 ?_
  refine zz_icmp_ne K 153 dX8_tellsUnder_124 rfl (fun c22 => ?_) (fun c22 => ?_)
  · have h := (And.left h) c22
    refine zz_aload_n K 0 dX8_tellsUnder_153 rfl rfl ?_
    refine zg8_8 K zin_X8_tellsUnder_X8 zlk_X8_tellsUnder_3 dX8_tellsUnder_154 ?_
    refine zz_aload_n K 0 dX8_tellsUnder_157 rfl rfl ?_
    refine zg8_3 K zin_X8_tellsUnder_X8 zlk_X8_tellsUnder_4 dX8_tellsUnder_158 ?_
    obtain ⟨hne, h⟩ := h
    refine zz_idiv K hne dX8_tellsUnder_161 ?_
    refine zz_aload_n K 0 dX8_tellsUnder_162 rfl rfl ?_
    refine zg8_2 K zin_X8_tellsUnder_X8 zlk_X8_tellsUnder_5 dX8_tellsUnder_163 ?_
    refine zz_iconst K dX8_tellsUnder_166 zci_1 ?_
    refine zz_isub K dX8_tellsUnder_167 ?_
    refine zz_icmp_ge K 175 dX8_tellsUnder_168 rfl (fun c23 => ?_) (fun c23 => ?_)
    · have h := (And.left h) c23
      refine zz_iconst K dX8_tellsUnder_175 zci_0 ?_
      exact hret _ _ rfl h _ _ dX8_tellsUnder_176
    · have h := (And.right h) c23
      refine zz_iconst K dX8_tellsUnder_171 zci_1 ?_
      refine zz_goto K 176 dX8_tellsUnder_172 rfl ?_
      exact hret _ _ rfl h _ _ dX8_tellsUnder_176
  · have h := (And.right h) c22
    refine zz_aload_n K 0 dX8_tellsUnder_127 rfl rfl ?_
    refine zg8_8 K zin_X8_tellsUnder_X8 zlk_X8_tellsUnder_3 dX8_tellsUnder_128 ?_
    refine zz_aload_n K 0 dX8_tellsUnder_131 rfl rfl ?_
    refine zg8_3 K zin_X8_tellsUnder_X8 zlk_X8_tellsUnder_4 dX8_tellsUnder_132 ?_
    obtain ⟨hne, h⟩ := h
    refine zz_irem K hne dX8_tellsUnder_135 ?_
    refine zz_aload_n K 0 dX8_tellsUnder_136 rfl rfl ?_
    refine zg8_3 K zin_X8_tellsUnder_X8 zlk_X8_tellsUnder_4 dX8_tellsUnder_137 ?_
    refine zz_iconst K dX8_tellsUnder_140 zci_1 ?_
    refine zz_isub K dX8_tellsUnder_141 ?_
    refine zz_icmp_ge K 149 dX8_tellsUnder_142 rfl (fun c24 => ?_) (fun c24 => ?_)
    · have h := (And.left h) c24
      refine zz_iconst K dX8_tellsUnder_149 zci_0 ?_
      refine zz_goto K 176 dX8_tellsUnder_150 rfl ?_
      exact hret _ _ rfl h _ _ dX8_tellsUnder_176
    · have h := (And.right h) c24
      refine zz_iconst K dX8_tellsUnder_145 zci_1 ?_
      refine zz_goto K 176 dX8_tellsUnder_146 rfl ?_
      exact hret _ _ rfl h _ _ dX8_tellsUnder_176
set_option maxHeartbeats 4000000 in
set_option maxRecDepth 100000 in
theorem zu8_tellsUnder_81 {p : Program} {l : Launch} {e : Env} {s : State} {m : MethodId} {args : Array Value} {below : List Frame} {meth : Method} {c : Code} {Q : State → Prop} {D : va_G} {A : Nat → Prop} {ad : Nat → Nat} {cy : Nat → ClassId} {s0 : Int32} {σ : zz_St} (K : zz_K p s m args c cX8_tellsUnder 2 RX8 wsX8_tellsUnder D (tysM cy) A (wM ad cy) []) {Qp : Int32 → zz_St → Prop} (hret : ∀ (r : Int32) (σ2 : zz_St), narrow .boolean (.int r) = .int r → Qp r σ2 → ∀ (pc : Nat) (lv : List (Nat × Value)), decode cX8_tellsUnder pc = .ok (.ireturn, 1) → zz_G p l e zrm8_tellsUnder s m args below meth c Q D A (wM ad cy) 2 pc lv [.int r] σ2) (h : zq8_tellsUnder_81 s0 σ Qp) : zz_G p l e zrm8_tellsUnder s m args below meth c Q D A (wM ad cy) 2 81 [(0, .ref (ad 0))] [.int s0] σ := by
  unfold zq8_tellsUnder_81 at h
  refine zz_istore_n K [(1, .int s0), (0, .ref (ad 0))] dX8_tellsUnder_81 rfl (by decide) rfl ?_
  refine zz_iload_n K 0 dX8_tellsUnder_82 rfl rfl ?_
  refine zz_if_ne K 88 dX8_tellsUnder_83 rfl (fun c25 => ?_) (fun c25 => ?_)
  · have h := (And.left h) c25
    refine zz_aload_n K 1 dX8_tellsUnder_88 rfl rfl ?_
    refine zg8_11 K zin_X8_tellsUnder_X8 zlk_X8_tellsUnder_2 dX8_tellsUnder_89 ?_
    refine zz_iconst K dX8_tellsUnder_92 zci_1 ?_
    refine zz_iload_n K 0 dX8_tellsUnder_93 rfl rfl ?_
    refine zz_iconst K dX8_tellsUnder_94 zci_1 ?_
    refine zz_icmp_ne K 107 dX8_tellsUnder_95 rfl (fun c26 => ?_) (fun c26 => ?_)
    · have h := (And.left h) c26
      refine zz_aload_n K 1 dX8_tellsUnder_107 rfl rfl ?_
      refine zg8_8 K zin_X8_tellsUnder_X8 zlk_X8_tellsUnder_3 dX8_tellsUnder_108 ?_
      refine zz_aload_n K 1 dX8_tellsUnder_111 rfl rfl ?_
      refine zg8_3 K zin_X8_tellsUnder_X8 zlk_X8_tellsUnder_4 dX8_tellsUnder_112 ?_
      refine zz_iadd K dX8_tellsUnder_115 ?_
      refine zz_sub [1, 0] [(0, .ref (ad 0)), (1, .int s0)] rfl ?_
      exact zu8_tellsUnder_116 K hret h
    · have h := (And.right h) c26
      refine zz_aload_n K 1 dX8_tellsUnder_98 rfl rfl ?_
      refine zg8_8 K zin_X8_tellsUnder_X8 zlk_X8_tellsUnder_3 dX8_tellsUnder_99 ?_
      refine zz_iconst K dX8_tellsUnder_102 zci_1 ?_
      refine zz_iadd K dX8_tellsUnder_103 ?_
      refine zz_goto K 116 dX8_tellsUnder_104 rfl ?_
      refine zz_sub [1, 0] [(0, .ref (ad 0)), (1, .int s0)] rfl ?_
      exact zu8_tellsUnder_116 K hret h
  · have h := (And.right h) c25
    refine zz_iconst K dX8_tellsUnder_86 zci_1 ?_
    exact hret _ _ rfl h _ _ dX8_tellsUnder_87
set_option maxHeartbeats 4000000 in
set_option maxRecDepth 100000 in
theorem zu8_tellsUnder_0 {p : Program} {l : Launch} {e : Env} {s : State} {m : MethodId} {args : Array Value} {below : List Frame} {meth : Method} {c : Code} {Q : State → Prop} {D : va_G} {A : Nat → Prop} {ad : Nat → Nat} {cy : Nat → ClassId}  {σ : zz_St} (K : zz_K p s m args c cX8_tellsUnder 2 RX8 wsX8_tellsUnder D (tysM cy) A (wM ad cy) []) {Qp : Int32 → zz_St → Prop} (hret : ∀ (r : Int32) (σ2 : zz_St), narrow .boolean (.int r) = .int r → Qp r σ2 → ∀ (pc : Nat) (lv : List (Nat × Value)), decode cX8_tellsUnder pc = .ok (.ireturn, 1) → zz_G p l e zrm8_tellsUnder s m args below meth c Q D A (wM ad cy) 2 pc lv [.int r] σ2) (h : zq8_tellsUnder σ Qp) : zz_G p l e zrm8_tellsUnder s m args below meth c Q D A (wM ad cy) 2 0 [(0, .ref (ad 0))] [] σ := by
  unfold zq8_tellsUnder at h
  refine zz_aload_n K 0 dX8_tellsUnder_0 rfl rfl ?_
  refine zz_iconst K dX8_tellsUnder_1 zci_1 ?_
  refine zp8_12 K zin_X8_tellsUnder_X8 zlk_X8_tellsUnder_1 dX8_tellsUnder_2 ?_
  refine zz_nms (fun g27 eg27 => ?_)
  have h := h g27 eg27
  refine zz_aload_n K 0 dX8_tellsUnder_5 rfl rfl ?_
  refine zz_callVi1 K zz_nw_nil [] (zc8_isTetra l D ad cy  g27 _ h) gX8_tellsUnder_X8_isTetra rfl ⟨rfl, rfl⟩ zds_yX8_isTetra_v ⟨Nat.le_of_ble_eq_true rfl, Nat.le_of_ble_eq_true rfl⟩ (wM_at_0 ad cy _) rfl rfl rfl rfl (Nat.le_of_ble_eq_true rfl) dX8_tellsUnder_6 (fun r28 h => ?_)
  refine zz_if_eq K 43 dX8_tellsUnder_9 rfl (fun c29 => ?_) (fun c29 => ?_)
  · have h := (And.left h) c29
    refine zz_aload_n K 0 dX8_tellsUnder_43 rfl rfl ?_
    refine zg8_11 K zin_X8_tellsUnder_X8 zlk_X8_tellsUnder_2 dX8_tellsUnder_44 ?_
    refine zz_iconst K dX8_tellsUnder_47 zci_0 ?_
    refine zz_aload_n K 0 dX8_tellsUnder_48 rfl rfl ?_
    refine zg8_8 K zin_X8_tellsUnder_X8 zlk_X8_tellsUnder_3 dX8_tellsUnder_49 ?_
    obtain ⟨hin, h⟩ := h
    refine zz_iastore K 0 (σ2 := zz_A g27 11 (upd (g27.2.1 11) (0 : Int32).toNatClampNeg (g27.1 8))) (wM_at_11 ad cy g27) (wM_set_11 ad cy g27 _) rfl hin dX8_tellsUnder_52 ?_
    refine zz_nms (fun g30 eg30 => ?_)
    have h := h g30 eg30
    refine zz_aload_n K 0 dX8_tellsUnder_53 rfl rfl ?_
    refine zz_aload_n K 0 dX8_tellsUnder_54 rfl rfl ?_
    refine zg8_8 K zin_X8_tellsUnder_X8 zlk_X8_tellsUnder_3 dX8_tellsUnder_55 ?_
    refine zz_callVi1 K zz_nw_nil [.int (g30.1 8)] (zc8_isTile l D ad cy (g30.1 8) g30 _ h) gX8_tellsUnder_X8_isTile rfl ⟨rfl, rfl⟩ zds_yX8_isTile_v ⟨Nat.le_of_ble_eq_true rfl, Nat.le_of_ble_eq_true rfl⟩ (wM_at_0 ad cy _) rfl rfl rfl rfl (Nat.le_of_ble_eq_true rfl) dX8_tellsUnder_58 (fun r31 h => ?_)
    refine zz_if_ne K 66 dX8_tellsUnder_61 rfl (fun c32 => ?_) (fun c32 => ?_)
    · have h := (And.left h) c32
      refine zz_aload_n K 0 dX8_tellsUnder_66 rfl rfl ?_
      refine zz_callVi1 K zz_nw_nil [] (zc8_isBlock l D ad cy  g30 _ h) gX8_tellsUnder_X8_isBlock rfl ⟨rfl, rfl⟩ zds_yX8_isBlock_v ⟨Nat.le_of_ble_eq_true rfl, Nat.le_of_ble_eq_true rfl⟩ (wM_at_0 ad cy _) rfl rfl rfl rfl (Nat.le_of_ble_eq_true rfl) dX8_tellsUnder_67 (fun r33 h => ?_)
      refine zz_if_eq K 80 dX8_tellsUnder_70 rfl (fun c34 => ?_) (fun c34 => ?_)
      · have h := (And.left h) c34
        refine zz_iconst K dX8_tellsUnder_80 zci_0 ?_
        exact zu8_tellsUnder_81 K hret h
      · have h := (And.right h) c34
        refine zz_aload_n K 0 dX8_tellsUnder_73 rfl rfl ?_
        refine zz_callVi1 K zz_nw_nil [] (zc8_lying l D ad cy  g30 _ h) gX8_tellsUnder_X8_lying rfl ⟨rfl, rfl⟩ zds_yX8_lying_v ⟨Nat.le_of_ble_eq_true rfl, Nat.le_of_ble_eq_true rfl⟩ (wM_at_0 ad cy _) rfl rfl rfl rfl (Nat.le_of_ble_eq_true rfl) dX8_tellsUnder_74 (fun r35 h => ?_)
        refine zz_goto K 81 dX8_tellsUnder_77 rfl ?_
        exact zu8_tellsUnder_81 K hret h
    · have h := (And.right h) c32
      refine zz_iconst K dX8_tellsUnder_64 zci_0 ?_
      exact hret _ _ rfl h _ _ dX8_tellsUnder_65
  · have h := (And.right h) c29
    refine zz_aload_n K 0 dX8_tellsUnder_12 rfl rfl ?_
    refine zg8_11 K zin_X8_tellsUnder_X8 zlk_X8_tellsUnder_2 dX8_tellsUnder_13 ?_
    refine zz_iconst K dX8_tellsUnder_16 zci_0 ?_
    refine zz_aload_n K 0 dX8_tellsUnder_17 rfl rfl ?_
    refine zg8_8 K zin_X8_tellsUnder_X8 zlk_X8_tellsUnder_3 dX8_tellsUnder_18 ?_
    refine zz_iconst K dX8_tellsUnder_21 zci_2 ?_
    refine zz_idiv K (by decide : ¬ (2 : Int32) = 0) dX8_tellsUnder_22 ?_
    obtain ⟨hin, h⟩ := h
    refine zz_iastore K 0 (σ2 := zz_A g27 11 (upd (g27.2.1 11) (0 : Int32).toNatClampNeg ((g27.1 8) / (2 : Int32)))) (wM_at_11 ad cy g27) (wM_set_11 ad cy g27 _) rfl hin dX8_tellsUnder_23 ?_
    refine zz_nms (fun g36 eg36 => ?_)
    have h := h g36 eg36
    refine zz_aload_n K 0 dX8_tellsUnder_24 rfl rfl ?_
    refine zg8_8 K zin_X8_tellsUnder_X8 zlk_X8_tellsUnder_3 dX8_tellsUnder_25 ?_
    refine zz_i2l K dX8_tellsUnder_28 ?_
    refine zz_lconst K (v := (0 : Int64)) dX8_tellsUnder_29 rfl ?_
    refine zz_iconst K dX8_tellsUnder_30 zci_2 ?_
    refine zz_aload_n K 0 dX8_tellsUnder_31 rfl rfl ?_
    refine zz_callVi1 K zz_nw_nil [] (zc8_tileMany l D ad cy  g36 _ h) gX8_tellsUnder_X8_tileMany rfl ⟨rfl, rfl⟩ zds_yX8_tileMany_v ⟨Nat.le_of_ble_eq_true rfl, Nat.le_of_ble_eq_true rfl⟩ (wM_at_0 ad cy _) rfl rfl rfl rfl (Nat.le_of_ble_eq_true rfl) dX8_tellsUnder_32 (fun r37 h => ?_)
    refine zz_imul K dX8_tellsUnder_35 ?_
    refine zz_iconst K dX8_tellsUnder_36 zci_1 ?_
    refine zz_isub K dX8_tellsUnder_37 ?_
    refine zz_i2l K dX8_tellsUnder_38 ?_
    refine zz_callSi1 K zz_nw_nil [.long ((g36.1 8).toInt64), .long (0 : Int64), .long ((((2 : Int32) * r37) - (1 : Int32)).toInt64)] (zc8_in l D ad cy ((g36.1 8).toInt64) (0 : Int64) ((((2 : Int32) * r37) - (1 : Int32)).toInt64) g36 _ h) gX8_tellsUnder_X8_in rfl ⟨rfl, rfl⟩ zds_yX8_in_s ⟨Nat.le_of_ble_eq_true rfl, Nat.le_of_ble_eq_true rfl⟩ rfl rfl (Nat.le_of_ble_eq_true rfl) dX8_tellsUnder_39 (fun r38 h => ?_)
    obtain ⟨hnb, h⟩ := h
    exact hret _ _ (zz_nb hnb) h _ _ dX8_tellsUnder_42
set_option maxRecDepth 100000 in
theorem zc8_tellsUnder (l : Launch) (D : va_G) (ad : Nat → Nat) (cy : Nat → ClassId)  (σ : zz_St) (Qp : Int32 → zz_St → Prop) (h : zq8_tellsUnder σ Qp) : zz_Mi l yX8_tellsUnder wsX8_tellsUnder zrm8_tellsUnder D (tysM cy) (wM ad cy) [] [.ref (ad 0)] σ Qp :=
  zz_Mi.of zz_nw_nil (wM_ad ad cy) (by decide +kernel) rfl ⟨rfl, rfl⟩ (Nat.le_of_ble_eq_true rfl) (fun p e s m args below meth c A QW K hret => zu8_tellsUnder_0 K  hret h)
theorem zin_X8_mayLie_X8 : ∀ w ∈ wsX80, w ∈ wsX8_mayLie := fun w h => List.mem_cons_of_mem _ (List.mem_append_right _ h)
theorem zlk_X8_mayLie_1 : Cond.fieldLink RX8 133 "SolidsRolledModel" "kind" "I" ∈ wsX8_mayLie := List.mem_of_getElem? (i := 1) rfl
theorem zlk_X8_mayLie_2 : Cond.fieldLink RX8 144 "SolidsRolledModel" "underMany" "I" ∈ wsX8_mayLie := List.mem_of_getElem? (i := 2) rfl
theorem zlk_X8_mayLie_3 : Cond.fieldLink RX8 29 "SolidsRolledModel" "tiles" "[I" ∈ wsX8_mayLie := List.mem_of_getElem? (i := 3) rfl
theorem zlk_X8_mayLie_4 : Cond.fieldLink RX8 45 "SolidsRolledModel" "under" "[I" ∈ wsX8_mayLie := List.mem_of_getElem? (i := 4) rfl
theorem zds_yX8_tellsUnder_v : yX8_tellsUnder.cls = RX8 ∧ yX8_tellsUnder.cls ≠ "java/lang/invoke/MethodHandle" ∧ yX8_tellsUnder.cls ≠ "java/lang/invoke/VarHandle" ∧ (parseMethodDescriptor yX8_tellsUnder.desc).map (fun d => d.parameters.length) = some 0 := by decide +kernel
abbrev zrm8_mayLie : Room := { frames := 3, cells := 0, slots := 0, locals := 67 }
set_option maxHeartbeats 4000000 in
set_option maxRecDepth 100000 in
theorem zu8_mayLie_76 {p : Program} {l : Launch} {e : Env} {s : State} {m : MethodId} {args : Array Value} {below : List Frame} {meth : Method} {c : Code} {Q : State → Prop} {D : va_G} {A : Nat → Prop} {ad : Nat → Nat} {cy : Nat → ClassId} {v1 : Int32} {v2 : Int32} {σ : zz_St} (K : zz_K p s m args c cX8_mayLie 4 RX8 wsX8_mayLie D (tysM cy) A (wM ad cy) []) {Qp : Int32 → zz_St → Prop} (hret : ∀ (r : Int32) (σ2 : zz_St), narrow .boolean (.int r) = .int r → Qp r σ2 → ∀ (pc : Nat) (lv : List (Nat × Value)), decode cX8_mayLie pc = .ok (.ireturn, 1) → zz_G p l e zrm8_mayLie s m args below meth c Q D A (wM ad cy) 4 pc lv [.int r] σ2) {B40 : Int32 → Prop} (hB40 : ∀ (v2' : Int32), B40 v2' → zz_G p l e zrm8_mayLie s m args below meth c Q D A (wM ad cy) 4 40 [(0, .ref (ad 0)), (1, .int v1), (2, .int v2')] [] σ) (h : zq8_mayLie_76 v1 v2 σ Qp B40) : zz_G p l e zrm8_mayLie s m args below meth c Q D A (wM ad cy) 4 76 [(0, .ref (ad 0)), (1, .int v1), (2, .int v2)] [] σ := by
  unfold zq8_mayLie_76 at h
  refine zz_iinc K 2 [(2, .int (v2 + (1 : Int32))), (0, .ref (ad 0)), (1, .int v1)] dX8_mayLie_76 zci_1 rfl (by decide) rfl ?_
  refine zz_goto K 40 dX8_mayLie_79 rfl ?_
  refine zz_sub [1, 2, 0] [(0, .ref (ad 0)), (1, .int v1), (2, .int (v2 + (1 : Int32)))] rfl ?_
  exact hB40 (v2 + (1 : Int32)) h
set_option maxHeartbeats 4000000 in
set_option maxRecDepth 100000 in
theorem zu8_mayLie_40 {p : Program} {l : Launch} {e : Env} {s : State} {m : MethodId} {args : Array Value} {below : List Frame} {meth : Method} {c : Code} {Q : State → Prop} {D : va_G} {A : Nat → Prop} {ad : Nat → Nat} {cy : Nat → ClassId} {v1 : Int32} {v2 : Int32} {σ : zz_St} (K : zz_K p s m args c cX8_mayLie 4 RX8 wsX8_mayLie D (tysM cy) A (wM ad cy) []) {Qp : Int32 → zz_St → Prop} (hret : ∀ (r : Int32) (σ2 : zz_St), narrow .boolean (.int r) = .int r → Qp r σ2 → ∀ (pc : Nat) (lv : List (Nat × Value)), decode cX8_mayLie pc = .ok (.ireturn, 1) → zz_G p l e zrm8_mayLie s m args below meth c Q D A (wM ad cy) 4 pc lv [.int r] σ2) (h : zq8_mayLie_40 v1 v2 σ Qp) : zz_G p l e zrm8_mayLie s m args below meth c Q D A (wM ad cy) 4 40 [(0, .ref (ad 0)), (1, .int v1), (2, .int v2)] [] σ := by
  unfold zq8_mayLie_40 at h
  obtain ⟨I40, M40, h0, hs⟩ := h
  have key : ∀ (n : Nat) (v2 : Int32), M40 v2 < n → I40 v2 → zz_G p l e zrm8_mayLie s m args below meth c Q D A (wM ad cy) 4 40 [(0, .ref (ad 0)), (1, .int v1), (2, .int v2)] [] σ := by
    intro n
    induction n with
    | zero => intro v2 hlt; exact absurd hlt (Nat.not_lt_zero _)
    | succ n ih =>
      intro v2 hlt hI
      have h := hs v2 hI
      have hB40 : ∀ (v2' : Int32), (fun v2' => I40 v2' ∧ M40 v2' < M40 v2) v2' → zz_G p l e zrm8_mayLie s m args below meth c Q D A (wM ad cy) 4 40 [(0, .ref (ad 0)), (1, .int v1), (2, .int v2')] [] σ := fun v2' hz => ih v2' (Nat.lt_of_lt_of_le hz.2 (Nat.le_of_lt_succ hlt)) hz.1
      refine zz_iload_n K 2 dX8_mayLie_40 rfl rfl ?_
      refine zz_aload_n K 0 dX8_mayLie_41 rfl rfl ?_
      refine zg8_12 K zin_X8_mayLie_X8 zlk_X8_mayLie_2 dX8_mayLie_42 ?_
      refine zz_icmp_ge K 82 dX8_mayLie_45 rfl (fun c13 => ?_) (fun c13 => ?_)
      · have h := (And.left h) c13
        refine zz_iconst K dX8_mayLie_82 zci_1 ?_
        exact hret _ _ rfl h _ _ dX8_mayLie_83
      · have h := (And.right h) c13
        refine zz_aload_n K 0 dX8_mayLie_48 rfl rfl ?_
        refine zg8_4 K zin_X8_mayLie_X8 zlk_X8_mayLie_3 dX8_mayLie_49 ?_
        refine zz_aload_n K 0 dX8_mayLie_52 rfl rfl ?_
        refine zg8_11 K zin_X8_mayLie_X8 zlk_X8_mayLie_4 dX8_mayLie_53 ?_
        refine zz_iload_n K 2 dX8_mayLie_56 rfl rfl ?_
        obtain ⟨hin, h⟩ := h
        refine zz_iaload K 0 (wM_at_11 ad cy σ) rfl hin dX8_mayLie_57 ?_
        obtain ⟨hin, h⟩ := h
        refine zz_iaload K 0 (wM_at_4 ad cy σ) rfl hin dX8_mayLie_58 ?_
        refine zz_nmi (fun x14 ex14 => ?_)
        have h := h x14 ex14
        refine zz_istore_n K [(3, .int x14), (0, .ref (ad 0)), (1, .int v1), (2, .int v2)] dX8_mayLie_59 rfl (by decide) rfl ?_
        refine zz_iload_n K 0 dX8_mayLie_60 rfl rfl ?_
        refine zz_iconst K dX8_mayLie_61 zci_1 ?_
        refine zz_icmp_eq K 74 dX8_mayLie_62 rfl (fun c15 => ?_) (fun c15 => ?_)
        · have h := (And.left h) c15
          refine zz_iconst K dX8_mayLie_74 zci_0 ?_
          exact hret _ _ rfl h _ _ dX8_mayLie_75
        · have h := (And.right h) c15
          refine zz_iload_n K 0 dX8_mayLie_65 rfl rfl ?_
          refine zz_iconst K dX8_mayLie_66 zci_2 ?_
          refine zz_icmp_ne K 76 dX8_mayLie_67 rfl (fun c16 => ?_) (fun c16 => ?_)
          · have h := (And.left h) c16
            refine zz_sub [1, 2, 3] [(0, .ref (ad 0)), (1, .int v1), (2, .int v2)] rfl ?_
            exact zu8_mayLie_76 K hret hB40 h
          · have h := (And.right h) c16
            refine zz_iload_n K 2 dX8_mayLie_70 rfl rfl ?_
            refine zz_if_eq K 76 dX8_mayLie_71 rfl (fun c17 => ?_) (fun c17 => ?_)
            · have h := (And.left h) c17
              refine zz_sub [1, 2, 3] [(0, .ref (ad 0)), (1, .int v1), (2, .int v2)] rfl ?_
              exact zu8_mayLie_76 K hret hB40 h
            · have h := (And.right h) c17
              refine zz_iconst K dX8_mayLie_74 zci_0 ?_
              exact hret _ _ rfl h _ _ dX8_mayLie_75
  exact key _ v2 (Nat.lt_succ_self _) h0
set_option maxHeartbeats 4000000 in
set_option maxRecDepth 100000 in
theorem zu8_mayLie_37 {p : Program} {l : Launch} {e : Env} {s : State} {m : MethodId} {args : Array Value} {below : List Frame} {meth : Method} {c : Code} {Q : State → Prop} {D : va_G} {A : Nat → Prop} {ad : Nat → Nat} {cy : Nat → ClassId} {s0 : Int32} {σ : zz_St} (K : zz_K p s m args c cX8_mayLie 4 RX8 wsX8_mayLie D (tysM cy) A (wM ad cy) []) {Qp : Int32 → zz_St → Prop} (hret : ∀ (r : Int32) (σ2 : zz_St), narrow .boolean (.int r) = .int r → Qp r σ2 → ∀ (pc : Nat) (lv : List (Nat × Value)), decode cX8_mayLie pc = .ok (.ireturn, 1) → zz_G p l e zrm8_mayLie s m args below meth c Q D A (wM ad cy) 4 pc lv [.int r] σ2) (h : zq8_mayLie_37 s0 σ Qp) : zz_G p l e zrm8_mayLie s m args below meth c Q D A (wM ad cy) 4 37 [(0, .ref (ad 0))] [.int s0] σ := by
  unfold zq8_mayLie_37 at h
  refine zz_istore_n K [(1, .int s0), (0, .ref (ad 0))] dX8_mayLie_37 rfl (by decide) rfl ?_
  refine zz_iconst K dX8_mayLie_38 zci_0 ?_
  refine zz_istore_n K [(2, .int (0 : Int32)), (1, .int s0), (0, .ref (ad 0))] dX8_mayLie_39 rfl (by decide) rfl ?_
  refine zz_sub [2, 1, 0] [(0, .ref (ad 0)), (1, .int s0), (2, .int (0 : Int32))] rfl ?_
  exact zu8_mayLie_40 K hret h
set_option maxHeartbeats 4000000 in
set_option maxRecDepth 100000 in
theorem zu8_mayLie_32 {p : Program} {l : Launch} {e : Env} {s : State} {m : MethodId} {args : Array Value} {below : List Frame} {meth : Method} {c : Code} {Q : State → Prop} {D : va_G} {A : Nat → Prop} {ad : Nat → Nat} {cy : Nat → ClassId}  {σ : zz_St} (K : zz_K p s m args c cX8_mayLie 4 RX8 wsX8_mayLie D (tysM cy) A (wM ad cy) []) {Qp : Int32 → zz_St → Prop} (hret : ∀ (r : Int32) (σ2 : zz_St), narrow .boolean (.int r) = .int r → Qp r σ2 → ∀ (pc : Nat) (lv : List (Nat × Value)), decode cX8_mayLie pc = .ok (.ireturn, 1) → zz_G p l e zrm8_mayLie s m args below meth c Q D A (wM ad cy) 4 pc lv [.int r] σ2) (h : zq8_mayLie_32 σ Qp) : zz_G p l e zrm8_mayLie s m args below meth c Q D A (wM ad cy) 4 32 [(0, .ref (ad 0))] [] σ := by
  unfold zq8_mayLie_32 at h
  refine zz_iconst K dX8_mayLie_32 zci_1 ?_
  refine zz_goto K 37 dX8_mayLie_33 rfl ?_
  exact zu8_mayLie_37 K hret h
set_option maxHeartbeats 4000000 in
set_option maxRecDepth 100000 in
theorem zu8_mayLie_36 {p : Program} {l : Launch} {e : Env} {s : State} {m : MethodId} {args : Array Value} {below : List Frame} {meth : Method} {c : Code} {Q : State → Prop} {D : va_G} {A : Nat → Prop} {ad : Nat → Nat} {cy : Nat → ClassId}  {σ : zz_St} (K : zz_K p s m args c cX8_mayLie 4 RX8 wsX8_mayLie D (tysM cy) A (wM ad cy) []) {Qp : Int32 → zz_St → Prop} (hret : ∀ (r : Int32) (σ2 : zz_St), narrow .boolean (.int r) = .int r → Qp r σ2 → ∀ (pc : Nat) (lv : List (Nat × Value)), decode cX8_mayLie pc = .ok (.ireturn, 1) → zz_G p l e zrm8_mayLie s m args below meth c Q D A (wM ad cy) 4 pc lv [.int r] σ2) (h : zq8_mayLie_36 σ Qp) : zz_G p l e zrm8_mayLie s m args below meth c Q D A (wM ad cy) 4 36 [(0, .ref (ad 0))] [] σ := by
  unfold zq8_mayLie_36 at h
  refine zz_iconst K dX8_mayLie_36 zci_0 ?_
  exact zu8_mayLie_37 K hret h
set_option maxHeartbeats 4000000 in
set_option maxRecDepth 100000 in
theorem zu8_mayLie_0 {p : Program} {l : Launch} {e : Env} {s : State} {m : MethodId} {args : Array Value} {below : List Frame} {meth : Method} {c : Code} {Q : State → Prop} {D : va_G} {A : Nat → Prop} {ad : Nat → Nat} {cy : Nat → ClassId}  {σ : zz_St} (K : zz_K p s m args c cX8_mayLie 4 RX8 wsX8_mayLie D (tysM cy) A (wM ad cy) []) {Qp : Int32 → zz_St → Prop} (hret : ∀ (r : Int32) (σ2 : zz_St), narrow .boolean (.int r) = .int r → Qp r σ2 → ∀ (pc : Nat) (lv : List (Nat × Value)), decode cX8_mayLie pc = .ok (.ireturn, 1) → zz_G p l e zrm8_mayLie s m args below meth c Q D A (wM ad cy) 4 pc lv [.int r] σ2) (h : zq8_mayLie σ Qp) : zz_G p l e zrm8_mayLie s m args below meth c Q D A (wM ad cy) 4 0 [(0, .ref (ad 0))] [] σ := by
  unfold zq8_mayLie at h
  refine zz_aload_n K 0 dX8_mayLie_0 rfl rfl ?_
  refine zz_callVi K zz_nw_nil [] (zc8_tellsUnder l D ad cy  σ _ h) gX8_mayLie_X8_tellsUnder rfl ⟨rfl, rfl⟩ zds_yX8_tellsUnder_v ⟨Nat.le_of_ble_eq_true rfl, Nat.le_of_ble_eq_true rfl⟩ (wM_at_0 ad cy _) rfl rfl rfl rfl (Nat.le_of_ble_eq_true rfl) dX8_mayLie_1 (fun r18 g19 h => ?_)
  refine zz_if_ne K 9 dX8_mayLie_4 rfl (fun c20 => ?_) (fun c20 => ?_)
  · have h := (And.left h) c20
    refine zz_aload_n K 0 dX8_mayLie_9 rfl rfl ?_
    refine zg8_7 K zin_X8_mayLie_X8 zlk_X8_mayLie_1 dX8_mayLie_10 ?_
    refine zz_iconst K dX8_mayLie_13 zci_1 ?_
    refine zz_icmp_eq K 32 dX8_mayLie_14 rfl (fun c21 => ?_) (fun c21 => ?_)
    · have h := (And.left h) c21
      exact zu8_mayLie_32 K hret h
    · have h := (And.right h) c21
      refine zz_aload_n K 0 dX8_mayLie_17 rfl rfl ?_
      refine zg8_7 K zin_X8_mayLie_X8 zlk_X8_mayLie_1 dX8_mayLie_18 ?_
      refine zz_iconst K dX8_mayLie_21 zci_3 ?_
      refine zz_icmp_ne K 36 dX8_mayLie_22 rfl (fun c22 => ?_) (fun c22 => ?_)
      · have h := (And.left h) c22
        exact zu8_mayLie_36 K hret h
      · have h := (And.right h) c22
        refine zz_aload_n K 0 dX8_mayLie_25 rfl rfl ?_
        refine zz_callVi1 K zz_nw_nil [] (zc8_lying l D ad cy  g19 _ h) gX8_mayLie_X8_lying rfl ⟨rfl, rfl⟩ zds_yX8_lying_v ⟨Nat.le_of_ble_eq_true rfl, Nat.le_of_ble_eq_true rfl⟩ (wM_at_0 ad cy _) rfl rfl rfl rfl (Nat.le_of_ble_eq_true rfl) dX8_mayLie_26 (fun r23 h => ?_)
        refine zz_if_eq K 36 dX8_mayLie_29 rfl (fun c24 => ?_) (fun c24 => ?_)
        · have h := (And.left h) c24
          exact zu8_mayLie_36 K hret h
        · have h := (And.right h) c24
          exact zu8_mayLie_32 K hret h
  · have h := (And.right h) c20
    refine zz_iconst K dX8_mayLie_7 zci_0 ?_
    exact hret _ _ rfl h _ _ dX8_mayLie_8
set_option maxRecDepth 100000 in
theorem zc8_mayLie (l : Launch) (D : va_G) (ad : Nat → Nat) (cy : Nat → ClassId)  (σ : zz_St) (Qp : Int32 → zz_St → Prop) (h : zq8_mayLie σ Qp) : zz_Mi l yX8_mayLie wsX8_mayLie zrm8_mayLie D (tysM cy) (wM ad cy) [] [.ref (ad 0)] σ Qp :=
  zz_Mi.of zz_nw_nil (wM_ad ad cy) (by decide +kernel) rfl ⟨rfl, rfl⟩ (Nat.le_of_ble_eq_true rfl) (fun p e s m args below meth c A QW K hret => zu8_mayLie_0 K  hret h)
theorem zin_X8_turns_X8 : ∀ w ∈ wsX80, w ∈ wsX8_turns := fun w h => List.mem_cons_of_mem _ (List.mem_append_right _ h)
theorem zlk_X8_turns_1 : Cond.fieldLink RX8 42 "SolidsRolledModel" "faces" "[I" ∈ wsX8_turns := List.mem_of_getElem? (i := 1) rfl
abbrev zrm8_turns : Room := { frames := 0, cells := 0, slots := 0, locals := 0 }
set_option maxHeartbeats 4000000 in
set_option maxRecDepth 100000 in
theorem zu8_turns_0 {p : Program} {l : Launch} {e : Env} {s : State} {m : MethodId} {args : Array Value} {below : List Frame} {meth : Method} {c : Code} {Q : State → Prop} {D : va_G} {A : Nat → Prop} {ad : Nat → Nat} {cy : Nat → ClassId} {v1 : Int32} {v2 : Int32} {v3 : Int32} {v4 : Int32} {σ : zz_St} (K : zz_K p s m args c cX8_turns 6 RX8 wsX8_turns D (tysM cy) A (wM ad cy) []) {Qp : zz_St → Prop} (hret : ∀ (σ2 : zz_St), Qp σ2 → ∀ (pc : Nat) (lv : List (Nat × Value)), decode cX8_turns pc = .ok (.return_, 1) → zz_G p l e zrm8_turns s m args below meth c Q D A (wM ad cy) 6 pc lv [] σ2) (h : zq8_turns v1 v2 v3 v4 σ Qp) : zz_G p l e zrm8_turns s m args below meth c Q D A (wM ad cy) 6 0 [(0, .ref (ad 0)), (1, .int v1), (2, .int v2), (3, .int v3), (4, .int v4)] [] σ := by
  unfold zq8_turns at h
  refine zz_aload_n K 0 dX8_turns_0 rfl rfl ?_
  refine zg8_10 K zin_X8_turns_X8 zlk_X8_turns_1 dX8_turns_1 ?_
  refine zz_iload_n K 1 dX8_turns_4 rfl rfl ?_
  obtain ⟨hin, h⟩ := h
  refine zz_iaload K 0 (wM_at_10 ad cy σ) rfl hin dX8_turns_5 ?_
  refine zz_nmi (fun x6 ex6 => ?_)
  have h := h x6 ex6
  refine zz_istore K [(5, .int x6), (0, .ref (ad 0)), (1, .int v1), (2, .int v2), (3, .int v3), (4, .int v4)] dX8_turns_6 (by decide) rfl ?_
  refine zz_aload_n K 1 dX8_turns_8 rfl rfl ?_
  refine zg8_10 K zin_X8_turns_X8 zlk_X8_turns_1 dX8_turns_9 ?_
  refine zz_iload_n K 2 dX8_turns_12 rfl rfl ?_
  refine zz_aload_n K 1 dX8_turns_13 rfl rfl ?_
  refine zg8_10 K zin_X8_turns_X8 zlk_X8_turns_1 dX8_turns_14 ?_
  refine zz_iload_n K 3 dX8_turns_17 rfl rfl ?_
  obtain ⟨hin, h⟩ := h
  refine zz_iaload K 0 (wM_at_10 ad cy σ) rfl hin dX8_turns_18 ?_
  obtain ⟨hin, h⟩ := h
  refine zz_iastore K 0 (σ2 := zz_A σ 10 (upd ((σ).2.1 10) v1.toNatClampNeg ((σ).2.1 10 v2.toNatClampNeg))) (wM_at_10 ad cy σ) (wM_set_10 ad cy σ _) rfl hin dX8_turns_19 ?_
  refine zz_nms (fun g7 eg7 => ?_)
  have h := h g7 eg7
  refine zz_aload_n K 1 dX8_turns_20 rfl rfl ?_
  refine zg8_10 K zin_X8_turns_X8 zlk_X8_turns_1 dX8_turns_21 ?_
  refine zz_iload_n K 3 dX8_turns_24 rfl rfl ?_
  refine zz_aload_n K 1 dX8_turns_25 rfl rfl ?_
  refine zg8_10 K zin_X8_turns_X8 zlk_X8_turns_1 dX8_turns_26 ?_
  refine zz_iload_n K 4 dX8_turns_29 rfl rfl ?_
  obtain ⟨hin, h⟩ := h
  refine zz_iaload K 0 (wM_at_10 ad cy g7) rfl hin dX8_turns_30 ?_
  obtain ⟨hin, h⟩ := h
  refine zz_iastore K 0 (σ2 := zz_A g7 10 (upd (g7.2.1 10) v2.toNatClampNeg (g7.2.1 10 v3.toNatClampNeg))) (wM_at_10 ad cy g7) (wM_set_10 ad cy g7 _) rfl hin dX8_turns_31 ?_
  refine zz_nms (fun g8 eg8 => ?_)
  have h := h g8 eg8
  refine zz_aload_n K 1 dX8_turns_32 rfl rfl ?_
  refine zg8_10 K zin_X8_turns_X8 zlk_X8_turns_1 dX8_turns_33 ?_
  refine zz_iload_n K 4 dX8_turns_36 rfl rfl ?_
  refine zz_aload_n K 1 dX8_turns_37 rfl rfl ?_
  refine zg8_10 K zin_X8_turns_X8 zlk_X8_turns_1 dX8_turns_38 ?_
  refine zz_iload K 5 dX8_turns_41 rfl ?_
  obtain ⟨hin, h⟩ := h
  refine zz_iaload K 0 (wM_at_10 ad cy g8) rfl hin dX8_turns_43 ?_
  obtain ⟨hin, h⟩ := h
  refine zz_iastore K 0 (σ2 := zz_A g8 10 (upd (g8.2.1 10) v3.toNatClampNeg (g8.2.1 10 v4.toNatClampNeg))) (wM_at_10 ad cy g8) (wM_set_10 ad cy g8 _) rfl hin dX8_turns_44 ?_
  refine zz_nms (fun g9 eg9 => ?_)
  have h := h g9 eg9
  refine zz_aload_n K 1 dX8_turns_45 rfl rfl ?_
  refine zg8_10 K zin_X8_turns_X8 zlk_X8_turns_1 dX8_turns_46 ?_
  refine zz_iload K 5 dX8_turns_49 rfl ?_
  refine zz_iload K 0 dX8_turns_51 rfl ?_
  obtain ⟨hin, h⟩ := h
  refine zz_iastore K 0 (σ2 := zz_A g9 10 (upd (g9.2.1 10) v4.toNatClampNeg x6)) (wM_at_10 ad cy g9) (wM_set_10 ad cy g9 _) rfl hin dX8_turns_53 ?_
  refine zz_nms (fun g10 eg10 => ?_)
  have h := h g10 eg10
  exact hret _ h _ _ dX8_turns_54
set_option maxRecDepth 100000 in
theorem zc8_turns (l : Launch) (D : va_G) (ad : Nat → Nat) (cy : Nat → ClassId) (v1 : Int32) (v2 : Int32) (v3 : Int32) (v4 : Int32) (σ : zz_St) (Qp : zz_St → Prop) (h : zq8_turns v1 v2 v3 v4 σ Qp) : zz_Mv l yX8_turns wsX8_turns zrm8_turns D (tysM cy) (wM ad cy) [] [.ref (ad 0), .int v1, .int v2, .int v3, .int v4] σ Qp :=
  zz_Mv.of zz_nw_nil (wM_ad ad cy) (by decide +kernel) rfl ⟨rfl, rfl⟩ (Nat.le_of_ble_eq_true rfl) (fun p e s m args below meth c A QW K hret => zu8_turns_0 K  hret h)
theorem zds_yX8_turns_v : yX8_turns.cls = RX8 ∧ yX8_turns.cls ≠ "java/lang/invoke/MethodHandle" ∧ yX8_turns.cls ≠ "java/lang/invoke/VarHandle" ∧ (parseMethodDescriptor yX8_turns.desc).map (fun d => d.parameters.length) = some 4 := by decide +kernel
abbrev zrm8_turnsCube : Room := { frames := 1, cells := 0, slots := 0, locals := 25 }
set_option maxHeartbeats 4000000 in
set_option maxRecDepth 100000 in
theorem zu8_turnsCube_0 {p : Program} {l : Launch} {e : Env} {s : State} {m : MethodId} {args : Array Value} {below : List Frame} {meth : Method} {c : Code} {Q : State → Prop} {D : va_G} {A : Nat → Prop} {ad : Nat → Nat} {cy : Nat → ClassId} {v1 : Int32} {σ : zz_St} (K : zz_K p s m args c cX8_turnsCube 2 RX8 wsX8_turnsCube D (tysM cy) A (wM ad cy) []) {Qp : zz_St → Prop} (hret : ∀ (σ2 : zz_St), Qp σ2 → ∀ (pc : Nat) (lv : List (Nat × Value)), decode cX8_turnsCube pc = .ok (.return_, 1) → zz_G p l e zrm8_turnsCube s m args below meth c Q D A (wM ad cy) 2 pc lv [] σ2) (h : zq8_turnsCube v1 σ Qp) : zz_G p l e zrm8_turnsCube s m args below meth c Q D A (wM ad cy) 2 0 [(0, .ref (ad 0)), (1, .int v1)] [] σ := by
  unfold zq8_turnsCube at h
  refine zz_iload_n K 1 dX8_turnsCube_0 rfl rfl ?_
  by_cases c9 : v1 = (0 : Int32)
  · have h := (And.left h) c9
    refine zz_tin K (0) 28 dX8_turnsCube_1 (by rw [c9]; decide) (by decide) (by decide) rfl rfl ?_
    refine zz_aload_n K 0 dX8_turnsCube_28 rfl rfl ?_
    refine zz_iconst K dX8_turnsCube_29 zci_1 ?_
    refine zz_iconst K dX8_turnsCube_30 zci_2 ?_
    refine zz_iconst K dX8_turnsCube_31 zci_0 ?_
    refine zz_iconst K dX8_turnsCube_32 zci_4 ?_
    refine zz_callVv K zz_nw_nil [.int (1 : Int32), .int (2 : Int32), .int (0 : Int32), .int (4 : Int32)] (zc8_turns l D ad cy (1 : Int32) (2 : Int32) (0 : Int32) (4 : Int32) σ _ h) gX8_turnsCube_X8_turns rfl ⟨rfl, rfl⟩ zds_yX8_turns_v ⟨Nat.le_of_ble_eq_true rfl, Nat.le_of_ble_eq_true rfl⟩ (wM_at_0 ad cy _) rfl rfl rfl rfl (Nat.le_of_ble_eq_true rfl) dX8_turnsCube_33 (fun g5 h => ?_)
    refine zz_goto K 69 dX8_turnsCube_36 rfl ?_
    exact hret _ h _ _ dX8_turnsCube_69
  have h := (And.right h) c9
  by_cases c10 : v1 = (1 : Int32)
  · have h := (And.left h) c10
    refine zz_tin K (1) 39 dX8_turnsCube_1 (by rw [c10]; decide) (by decide) (by decide) rfl rfl ?_
    refine zz_aload_n K 0 dX8_turnsCube_39 rfl rfl ?_
    refine zz_iconst K dX8_turnsCube_40 zci_1 ?_
    refine zz_iconst K dX8_turnsCube_41 zci_3 ?_
    refine zz_iconst K dX8_turnsCube_42 zci_0 ?_
    refine zz_iconst K dX8_turnsCube_43 zci_5 ?_
    refine zz_callVv K zz_nw_nil [.int (1 : Int32), .int (3 : Int32), .int (0 : Int32), .int (5 : Int32)] (zc8_turns l D ad cy (1 : Int32) (3 : Int32) (0 : Int32) (5 : Int32) σ _ h) gX8_turnsCube_X8_turns rfl ⟨rfl, rfl⟩ zds_yX8_turns_v ⟨Nat.le_of_ble_eq_true rfl, Nat.le_of_ble_eq_true rfl⟩ (wM_at_0 ad cy _) rfl rfl rfl rfl (Nat.le_of_ble_eq_true rfl) dX8_turnsCube_44 (fun g6 h => ?_)
    refine zz_goto K 69 dX8_turnsCube_47 rfl ?_
    exact hret _ h _ _ dX8_turnsCube_69
  have h := (And.right h) c10
  by_cases c11 : v1 = (2 : Int32)
  · have h := (And.left h) c11
    refine zz_tin K (2) 50 dX8_turnsCube_1 (by rw [c11]; decide) (by decide) (by decide) rfl rfl ?_
    refine zz_aload_n K 0 dX8_turnsCube_50 rfl rfl ?_
    refine zz_iconst K dX8_turnsCube_51 zci_1 ?_
    refine zz_iconst K dX8_turnsCube_52 zci_4 ?_
    refine zz_iconst K dX8_turnsCube_53 zci_0 ?_
    refine zz_iconst K dX8_turnsCube_54 zci_2 ?_
    refine zz_callVv K zz_nw_nil [.int (1 : Int32), .int (4 : Int32), .int (0 : Int32), .int (2 : Int32)] (zc8_turns l D ad cy (1 : Int32) (4 : Int32) (0 : Int32) (2 : Int32) σ _ h) gX8_turnsCube_X8_turns rfl ⟨rfl, rfl⟩ zds_yX8_turns_v ⟨Nat.le_of_ble_eq_true rfl, Nat.le_of_ble_eq_true rfl⟩ (wM_at_0 ad cy _) rfl rfl rfl rfl (Nat.le_of_ble_eq_true rfl) dX8_turnsCube_55 (fun g7 h => ?_)
    refine zz_goto K 69 dX8_turnsCube_58 rfl ?_
    exact hret _ h _ _ dX8_turnsCube_69
  have h := (And.right h) c11
  refine zz_tout K 61 dX8_turnsCube_1 (zz_tsw v1 (0) (2) (fun z h1 h2 => by
    have hz : z = 0 ∨ z = 1 ∨ z = 2 := by omega
    rcases hz with rfl | rfl | rfl <;> intro q
    · exact c9 (Int32.toInt_inj.mp (q.trans (by decide)))
    · exact c10 (Int32.toInt_inj.mp (q.trans (by decide)))
    · exact c11 (Int32.toInt_inj.mp (q.trans (by decide))))) rfl ?_
  refine zz_aload_n K 0 dX8_turnsCube_61 rfl rfl ?_
  refine zz_iconst K dX8_turnsCube_62 zci_1 ?_
  refine zz_iconst K dX8_turnsCube_63 zci_5 ?_
  refine zz_iconst K dX8_turnsCube_64 zci_0 ?_
  refine zz_iconst K dX8_turnsCube_65 zci_3 ?_
  refine zz_callVv K zz_nw_nil [.int (1 : Int32), .int (5 : Int32), .int (0 : Int32), .int (3 : Int32)] (zc8_turns l D ad cy (1 : Int32) (5 : Int32) (0 : Int32) (3 : Int32) σ _ h) gX8_turnsCube_X8_turns rfl ⟨rfl, rfl⟩ zds_yX8_turns_v ⟨Nat.le_of_ble_eq_true rfl, Nat.le_of_ble_eq_true rfl⟩ (wM_at_0 ad cy _) rfl rfl rfl rfl (Nat.le_of_ble_eq_true rfl) dX8_turnsCube_66 (fun g8 h => ?_)
  exact hret _ h _ _ dX8_turnsCube_69
set_option maxRecDepth 100000 in
theorem zc8_turnsCube (l : Launch) (D : va_G) (ad : Nat → Nat) (cy : Nat → ClassId) (v1 : Int32) (σ : zz_St) (Qp : zz_St → Prop) (h : zq8_turnsCube v1 σ Qp) : zz_Mv l yX8_turnsCube wsX8_turnsCube zrm8_turnsCube D (tysM cy) (wM ad cy) [] [.ref (ad 0), .int v1] σ Qp :=
  zz_Mv.of zz_nw_nil (wM_ad ad cy) (by decide +kernel) rfl ⟨rfl, rfl⟩ (Nat.le_of_ble_eq_true rfl) (fun p e s m args below meth c A QW K hret => zu8_turnsCube_0 K  hret h)
theorem zin_X8_turnsTetra_X8 : ∀ w ∈ wsX80, w ∈ wsX8_turnsTetra := fun w h => List.mem_cons_of_mem _ (List.mem_append_right _ h)
theorem zlk_X8_turnsTetra_1 : Cond.fieldLink RX8 42 "SolidsRolledModel" "faces" "[I" ∈ wsX8_turnsTetra := List.mem_of_getElem? (i := 1) rfl
abbrev zrm8_turnsTetra : Room := { frames := 1, cells := 0, slots := 0, locals := 25 }
set_option maxHeartbeats 4000000 in
set_option maxRecDepth 100000 in
theorem zu8_turnsTetra_0 {p : Program} {l : Launch} {e : Env} {s : State} {m : MethodId} {args : Array Value} {below : List Frame} {meth : Method} {c : Code} {Q : State → Prop} {D : va_G} {A : Nat → Prop} {ad : Nat → Nat} {cy : Nat → ClassId} {v1 : Int32} {σ : zz_St} (K : zz_K p s m args c cX8_turnsTetra 3 RX8 wsX8_turnsTetra D (tysM cy) A (wM ad cy) []) {Qp : zz_St → Prop} (hret : ∀ (σ2 : zz_St), Qp σ2 → ∀ (pc : Nat) (lv : List (Nat × Value)), decode cX8_turnsTetra pc = .ok (.return_, 1) → zz_G p l e zrm8_turnsTetra s m args below meth c Q D A (wM ad cy) 3 pc lv [] σ2) (h : zq8_turnsTetra v1 σ Qp) : zz_G p l e zrm8_turnsTetra s m args below meth c Q D A (wM ad cy) 3 0 [(0, .ref (ad 0)), (1, .int v1)] [] σ := by
  unfold zq8_turnsTetra at h
  refine zz_iload_n K 1 dX8_turnsTetra_0 rfl rfl ?_
  refine zz_iconst K dX8_turnsTetra_1 zci_1 ?_
  refine zz_icmp_ne K 16 dX8_turnsTetra_2 rfl (fun c8 => ?_) (fun c8 => ?_)
  · have h := (And.left h) c8
    refine zz_iload_n K 1 dX8_turnsTetra_16 rfl rfl ?_
    refine zz_iconst K dX8_turnsTetra_17 zci_3 ?_
    refine zz_icmp_ne K 32 dX8_turnsTetra_18 rfl (fun c9 => ?_) (fun c9 => ?_)
    · have h := (And.left h) c9
      refine zz_aload_n K 0 dX8_turnsTetra_32 rfl rfl ?_
      refine zg8_10 K zin_X8_turnsTetra_X8 zlk_X8_turnsTetra_1 dX8_turnsTetra_33 ?_
      refine zz_iconst K dX8_turnsTetra_36 zci_0 ?_
      obtain ⟨hin, h⟩ := h
      refine zz_iaload K 0 (wM_at_10 ad cy σ) rfl hin dX8_turnsTetra_37 ?_
      refine zz_nmi (fun x10 ex10 => ?_)
      have h := h x10 ex10
      refine zz_istore_n K [(2, .int x10), (0, .ref (ad 0)), (1, .int v1)] dX8_turnsTetra_38 rfl (by decide) rfl ?_
      refine zz_aload_n K 1 dX8_turnsTetra_39 rfl rfl ?_
      refine zg8_10 K zin_X8_turnsTetra_X8 zlk_X8_turnsTetra_1 dX8_turnsTetra_40 ?_
      refine zz_iconst K dX8_turnsTetra_43 zci_0 ?_
      refine zz_aload_n K 1 dX8_turnsTetra_44 rfl rfl ?_
      refine zg8_10 K zin_X8_turnsTetra_X8 zlk_X8_turnsTetra_1 dX8_turnsTetra_45 ?_
      refine zz_iconst K dX8_turnsTetra_48 zci_3 ?_
      obtain ⟨hin, h⟩ := h
      refine zz_iaload K 0 (wM_at_10 ad cy σ) rfl hin dX8_turnsTetra_49 ?_
      obtain ⟨hin, h⟩ := h
      refine zz_iastore K 0 (σ2 := zz_A σ 10 (upd ((σ).2.1 10) (0 : Int32).toNatClampNeg ((σ).2.1 10 (3 : Int32).toNatClampNeg))) (wM_at_10 ad cy σ) (wM_set_10 ad cy σ _) rfl hin dX8_turnsTetra_50 ?_
      refine zz_nms (fun g11 eg11 => ?_)
      have h := h g11 eg11
      refine zz_aload_n K 1 dX8_turnsTetra_51 rfl rfl ?_
      refine zg8_10 K zin_X8_turnsTetra_X8 zlk_X8_turnsTetra_1 dX8_turnsTetra_52 ?_
      refine zz_iconst K dX8_turnsTetra_55 zci_3 ?_
      refine zz_iload_n K 0 dX8_turnsTetra_56 rfl rfl ?_
      obtain ⟨hin, h⟩ := h
      refine zz_iastore K 0 (σ2 := zz_A g11 10 (upd (g11.2.1 10) (3 : Int32).toNatClampNeg x10)) (wM_at_10 ad cy g11) (wM_set_10 ad cy g11 _) rfl hin dX8_turnsTetra_57 ?_
      refine zz_nms (fun g12 eg12 => ?_)
      have h := h g12 eg12
      exact hret _ h _ _ dX8_turnsTetra_58
    · have h := (And.right h) c9
      refine zz_aload_n K 0 dX8_turnsTetra_21 rfl rfl ?_
      refine zz_iconst K dX8_turnsTetra_22 zci_0 ?_
      refine zz_iconst K dX8_turnsTetra_23 zci_1 ?_
      refine zz_iconst K dX8_turnsTetra_24 zci_3 ?_
      refine zz_iconst K dX8_turnsTetra_25 zci_2 ?_
      refine zz_callVv K zz_nw_nil [.int (0 : Int32), .int (1 : Int32), .int (3 : Int32), .int (2 : Int32)] (zc8_turns l D ad cy (0 : Int32) (1 : Int32) (3 : Int32) (2 : Int32) σ _ h) gX8_turnsTetra_X8_turns rfl ⟨rfl, rfl⟩ zds_yX8_turns_v ⟨Nat.le_of_ble_eq_true rfl, Nat.le_of_ble_eq_true rfl⟩ (wM_at_0 ad cy _) rfl rfl rfl rfl (Nat.le_of_ble_eq_true rfl) dX8_turnsTetra_26 (fun g13 h => ?_)
      refine zz_goto K 58 dX8_turnsTetra_29 rfl ?_
      exact hret _ h _ _ dX8_turnsTetra_58
  · have h := (And.right h) c8
    refine zz_aload_n K 0 dX8_turnsTetra_5 rfl rfl ?_
    refine zz_iconst K dX8_turnsTetra_6 zci_0 ?_
    refine zz_iconst K dX8_turnsTetra_7 zci_2 ?_
    refine zz_iconst K dX8_turnsTetra_8 zci_3 ?_
    refine zz_iconst K dX8_turnsTetra_9 zci_1 ?_
    refine zz_callVv K zz_nw_nil [.int (0 : Int32), .int (2 : Int32), .int (3 : Int32), .int (1 : Int32)] (zc8_turns l D ad cy (0 : Int32) (2 : Int32) (3 : Int32) (1 : Int32) σ _ h) gX8_turnsTetra_X8_turns rfl ⟨rfl, rfl⟩ zds_yX8_turns_v ⟨Nat.le_of_ble_eq_true rfl, Nat.le_of_ble_eq_true rfl⟩ (wM_at_0 ad cy _) rfl rfl rfl rfl (Nat.le_of_ble_eq_true rfl) dX8_turnsTetra_10 (fun g14 h => ?_)
    refine zz_goto K 58 dX8_turnsTetra_13 rfl ?_
    exact hret _ h _ _ dX8_turnsTetra_58
set_option maxRecDepth 100000 in
theorem zc8_turnsTetra (l : Launch) (D : va_G) (ad : Nat → Nat) (cy : Nat → ClassId) (v1 : Int32) (σ : zz_St) (Qp : zz_St → Prop) (h : zq8_turnsTetra v1 σ Qp) : zz_Mv l yX8_turnsTetra wsX8_turnsTetra zrm8_turnsTetra D (tysM cy) (wM ad cy) [] [.ref (ad 0), .int v1] σ Qp :=
  zz_Mv.of zz_nw_nil (wM_ad ad cy) (by decide +kernel) rfl ⟨rfl, rfl⟩ (Nat.le_of_ble_eq_true rfl) (fun p e s m args below meth c A QW K hret => zu8_turnsTetra_0 K  hret h)
theorem zin_X8_goesTetra_X8 : ∀ w ∈ wsX80, w ∈ wsX8_goesTetra := fun w h => List.mem_cons_of_mem _ (List.mem_append_right _ h)
theorem zlk_X8_goesTetra_1 : Cond.fieldLink RX8 26 "SolidsRolledModel" "columns" "I" ∈ wsX8_goesTetra := List.mem_of_getElem? (i := 1) rfl
theorem zlk_X8_goesTetra_2 : Cond.fieldLink RX8 147 "SolidsRolledModel" "place" "I" ∈ wsX8_goesTetra := List.mem_of_getElem? (i := 2) rfl
theorem zci_m1 : Int32.ofInt (-1) = (-1 : Int32) := by decide
theorem zlk_X8_goesTetra_3 : Cond.fieldLink RX8 23 "SolidsRolledModel" "rows" "I" ∈ wsX8_goesTetra := List.mem_of_getElem? (i := 3) rfl
theorem zlk_X8_goesTetra_4 : Cond.fieldLink RX8 133 "SolidsRolledModel" "kind" "I" ∈ wsX8_goesTetra := List.mem_of_getElem? (i := 4) rfl
theorem zlk_X8_goesTetra_5 : Cond.fieldLink RX8 32 "SolidsRolledModel" "prints" "[I" ∈ wsX8_goesTetra := List.mem_of_getElem? (i := 5) rfl
theorem zds_yX8_turnsTetra_v : yX8_turnsTetra.cls = RX8 ∧ yX8_turnsTetra.cls ≠ "java/lang/invoke/MethodHandle" ∧ yX8_turnsTetra.cls ≠ "java/lang/invoke/VarHandle" ∧ (parseMethodDescriptor yX8_turnsTetra.desc).map (fun d => d.parameters.length) = some 1 := by decide +kernel
abbrev zrm8_goesTetra : Room := { frames := 2, cells := 0, slots := 0, locals := 47 }
set_option maxHeartbeats 4000000 in
set_option maxRecDepth 100000 in
theorem zu8_goesTetra_101 {p : Program} {l : Launch} {e : Env} {s : State} {m : MethodId} {args : Array Value} {below : List Frame} {meth : Method} {c : Code} {Q : State → Prop} {D : va_G} {A : Nat → Prop} {ad : Nat → Nat} {cy : Nat → ClassId} {v1 : Int32} {v2 : Int32} {v3 : Int32} {s0 : Int32} {s1 : Int32} {σ : zz_St} (K : zz_K p s m args c cX8_goesTetra 6 RX8 wsX8_goesTetra D (tysM cy) A (wM ad cy) []) {Qp : Int32 → zz_St → Prop} (hret : ∀ (r : Int32) (σ2 : zz_St), narrow .boolean (.int r) = .int r → Qp r σ2 → ∀ (pc : Nat) (lv : List (Nat × Value)), decode cX8_goesTetra pc = .ok (.ireturn, 1) → zz_G p l e zrm8_goesTetra s m args below meth c Q D A (wM ad cy) 6 pc lv [.int r] σ2) (h : zq8_goesTetra_101 v1 v2 v3 s0 s1 σ Qp) : zz_G p l e zrm8_goesTetra s m args below meth c Q D A (wM ad cy) 6 101 [(0, .ref (ad 0)), (1, .int v1), (2, .int v2), (3, .int v3)] [.int s0, .int s1] σ := by
  unfold zq8_goesTetra_101 at h
  refine zz_iadd K dX8_goesTetra_101 ?_
  refine zz_nmi (fun x23 ex23 => ?_)
  have h := h x23 ex23
  refine zz_istore K [(4, .int x23), (0, .ref (ad 0)), (1, .int v1), (2, .int v2), (3, .int v3)] dX8_goesTetra_102 (by decide) rfl ?_
  refine zz_iload_n K 4 dX8_goesTetra_104 rfl rfl ?_
  refine zz_i2l K dX8_goesTetra_105 ?_
  refine zz_lconst K (v := (0 : Int64)) dX8_goesTetra_106 rfl ?_
  refine zz_aload_n K 1 dX8_goesTetra_107 rfl rfl ?_
  refine zg8_2 K zin_X8_goesTetra_X8 zlk_X8_goesTetra_3 dX8_goesTetra_108 ?_
  refine zz_iconst K dX8_goesTetra_111 zci_1 ?_
  refine zz_isub K dX8_goesTetra_112 ?_
  refine zz_i2l K dX8_goesTetra_113 ?_
  refine zz_callSi1 K zz_nw_nil [.long (v3.toInt64), .long (0 : Int64), .long ((((σ).1 2) - (1 : Int32)).toInt64)] (zc8_in l D ad cy (v3.toInt64) (0 : Int64) ((((σ).1 2) - (1 : Int32)).toInt64) σ _ h) gX8_goesTetra_X8_in rfl ⟨rfl, rfl⟩ zds_yX8_in_s ⟨Nat.le_of_ble_eq_true rfl, Nat.le_of_ble_eq_true rfl⟩ rfl rfl (Nat.le_of_ble_eq_true rfl) dX8_goesTetra_114 (fun r24 h => ?_)
  refine zz_if_eq K 134 dX8_goesTetra_117 rfl (fun c25 => ?_) (fun c25 => ?_)
  · have h := (And.left h) c25
    refine zz_iconst K dX8_goesTetra_134 zci_0 ?_
    exact hret _ _ rfl h _ _ dX8_goesTetra_135
  · have h := (And.right h) c25
    refine zz_iload K 0 dX8_goesTetra_120 rfl ?_
    refine zz_i2l K dX8_goesTetra_122 ?_
    refine zz_lconst K (v := (0 : Int64)) dX8_goesTetra_123 rfl ?_
    refine zz_iload_n K 3 dX8_goesTetra_124 rfl rfl ?_
    refine zz_iconst K dX8_goesTetra_125 zci_1 ?_
    refine zz_isub K dX8_goesTetra_126 ?_
    refine zz_i2l K dX8_goesTetra_127 ?_
    refine zz_callSi1 K zz_nw_nil [.long (x23.toInt64), .long (0 : Int64), .long ((v2 - (1 : Int32)).toInt64)] (zc8_in l D ad cy (x23.toInt64) (0 : Int64) ((v2 - (1 : Int32)).toInt64) σ _ h) gX8_goesTetra_X8_in rfl ⟨rfl, rfl⟩ zds_yX8_in_s ⟨Nat.le_of_ble_eq_true rfl, Nat.le_of_ble_eq_true rfl⟩ rfl rfl (Nat.le_of_ble_eq_true rfl) dX8_goesTetra_128 (fun r26 h => ?_)
    refine zz_if_ne K 136 dX8_goesTetra_131 rfl (fun c27 => ?_) (fun c27 => ?_)
    · have h := (And.left h) c27
      refine zz_aload_n K 1 dX8_goesTetra_136 rfl rfl ?_
      refine zz_iload_n K 3 dX8_goesTetra_137 rfl rfl ?_
      refine zz_iload_n K 4 dX8_goesTetra_138 rfl rfl ?_
      refine zz_imul K dX8_goesTetra_139 ?_
      refine zz_iload K 0 dX8_goesTetra_140 rfl ?_
      refine zz_iadd K dX8_goesTetra_142 ?_
      refine zp8_8 K zin_X8_goesTetra_X8 zlk_X8_goesTetra_2 dX8_goesTetra_143 ?_
      refine zz_nms (fun g28 eg28 => ?_)
      have h := h g28 eg28
      refine zz_aload_n K 1 dX8_goesTetra_146 rfl rfl ?_
      refine zz_iload_n K 2 dX8_goesTetra_147 rfl rfl ?_
      refine zz_callVv K zz_nw_nil [.int v1] (zc8_turnsTetra l D ad cy v1 g28 _ h) gX8_goesTetra_X8_turnsTetra rfl ⟨rfl, rfl⟩ zds_yX8_turnsTetra_v ⟨Nat.le_of_ble_eq_true rfl, Nat.le_of_ble_eq_true rfl⟩ (wM_at_0 ad cy _) rfl rfl rfl rfl (Nat.le_of_ble_eq_true rfl) dX8_goesTetra_148 (fun g29 h => ?_)
      refine zz_aload_n K 1 dX8_goesTetra_151 rfl rfl ?_
      refine zg8_7 K zin_X8_goesTetra_X8 zlk_X8_goesTetra_4 dX8_goesTetra_152 ?_
      refine zz_iconst K dX8_goesTetra_155 zci_5 ?_
      refine zz_icmp_ne K 173 dX8_goesTetra_156 rfl (fun c30 => ?_) (fun c30 => ?_)
      · have h := (And.left h) c30
        refine zz_iconst K dX8_goesTetra_173 zci_1 ?_
        refine zz_goto K 178 dX8_goesTetra_174 rfl ?_
        exact hret _ _ rfl h _ _ dX8_goesTetra_178
      · have h := (And.right h) c30
        refine zz_aload_n K 1 dX8_goesTetra_159 rfl rfl ?_
        refine zg8_5 K zin_X8_goesTetra_X8 zlk_X8_goesTetra_5 dX8_goesTetra_160 ?_
        refine zz_aload_n K 1 dX8_goesTetra_163 rfl rfl ?_
        refine zg8_8 K zin_X8_goesTetra_X8 zlk_X8_goesTetra_2 dX8_goesTetra_164 ?_
        refine zz_iconst K dX8_goesTetra_167 zci_2 ?_
        refine zz_idiv K (by decide : ¬ (2 : Int32) = 0) dX8_goesTetra_168 ?_
        obtain ⟨hin, h⟩ := h
        refine zz_iaload K 0 (wM_at_5 ad cy g29) rfl hin dX8_goesTetra_169 ?_
        refine zz_if_ge K 177 dX8_goesTetra_170 rfl (fun c31 => ?_) (fun c31 => ?_)
        · have h := (And.left h) c31
          refine zz_iconst K dX8_goesTetra_177 zci_0 ?_
          exact hret _ _ rfl h _ _ dX8_goesTetra_178
        · have h := (And.right h) c31
          refine zz_iconst K dX8_goesTetra_173 zci_1 ?_
          refine zz_goto K 178 dX8_goesTetra_174 rfl ?_
          exact hret _ _ rfl h _ _ dX8_goesTetra_178
    · have h := (And.right h) c27
      refine zz_iconst K dX8_goesTetra_134 zci_0 ?_
      exact hret _ _ rfl h _ _ dX8_goesTetra_135
set_option maxHeartbeats 4000000 in
set_option maxRecDepth 100000 in
theorem zu8_goesTetra_78 {p : Program} {l : Launch} {e : Env} {s : State} {m : MethodId} {args : Array Value} {below : List Frame} {meth : Method} {c : Code} {Q : State → Prop} {D : va_G} {A : Nat → Prop} {ad : Nat → Nat} {cy : Nat → ClassId} {v1 : Int32} {v2 : Int32} {v4 : Int32} {s0 : Int32} {s1 : Int32} {σ : zz_St} (K : zz_K p s m args c cX8_goesTetra 6 RX8 wsX8_goesTetra D (tysM cy) A (wM ad cy) []) {Qp : Int32 → zz_St → Prop} (hret : ∀ (r : Int32) (σ2 : zz_St), narrow .boolean (.int r) = .int r → Qp r σ2 → ∀ (pc : Nat) (lv : List (Nat × Value)), decode cX8_goesTetra pc = .ok (.ireturn, 1) → zz_G p l e zrm8_goesTetra s m args below meth c Q D A (wM ad cy) 6 pc lv [.int r] σ2) (h : zq8_goesTetra_78 v1 v2 v4 s0 s1 σ Qp) : zz_G p l e zrm8_goesTetra s m args below meth c Q D A (wM ad cy) 6 78 [(0, .ref (ad 0)), (1, .int v1), (2, .int v2), (4, .int v4)] [.int s0, .int s1] σ := by
  unfold zq8_goesTetra_78 at h
  refine zz_iadd K dX8_goesTetra_78 ?_
  refine zz_nmi (fun x32 ex32 => ?_)
  have h := h x32 ex32
  refine zz_istore_n K [(3, .int x32), (0, .ref (ad 0)), (1, .int v1), (2, .int v2), (4, .int v4)] dX8_goesTetra_79 rfl (by decide) rfl ?_
  refine zz_iload K 4 dX8_goesTetra_80 rfl ?_
  refine zz_iload_n K 2 dX8_goesTetra_82 rfl rfl ?_
  refine zz_iconst K dX8_goesTetra_83 zci_1 ?_
  refine zz_icmp_ne K 91 dX8_goesTetra_84 rfl (fun c33 => ?_) (fun c33 => ?_)
  · have h := (And.left h) c33
    refine zz_iload_n K 2 dX8_goesTetra_91 rfl rfl ?_
    refine zz_iconst K dX8_goesTetra_92 zci_3 ?_
    refine zz_icmp_ne K 100 dX8_goesTetra_93 rfl (fun c34 => ?_) (fun c34 => ?_)
    · have h := (And.left h) c34
      refine zz_iconst K dX8_goesTetra_100 zci_0 ?_
      refine zz_sub [1, 2, 3, 0] [(0, .ref (ad 0)), (1, .int v1), (2, .int v2), (3, .int x32)] rfl ?_
      exact zu8_goesTetra_101 K hret h
    · have h := (And.right h) c34
      refine zz_iconst K dX8_goesTetra_96 zci_m1 ?_
      refine zz_goto K 101 dX8_goesTetra_97 rfl ?_
      refine zz_sub [1, 2, 3, 0] [(0, .ref (ad 0)), (1, .int v1), (2, .int v2), (3, .int x32)] rfl ?_
      exact zu8_goesTetra_101 K hret h
  · have h := (And.right h) c33
    refine zz_iconst K dX8_goesTetra_87 zci_1 ?_
    refine zz_goto K 101 dX8_goesTetra_88 rfl ?_
    refine zz_sub [1, 2, 3, 0] [(0, .ref (ad 0)), (1, .int v1), (2, .int v2), (3, .int x32)] rfl ?_
    exact zu8_goesTetra_101 K hret h
set_option maxHeartbeats 4000000 in
set_option maxRecDepth 100000 in
theorem zu8_goesTetra_59 {p : Program} {l : Launch} {e : Env} {s : State} {m : MethodId} {args : Array Value} {below : List Frame} {meth : Method} {c : Code} {Q : State → Prop} {D : va_G} {A : Nat → Prop} {ad : Nat → Nat} {cy : Nat → ClassId} {v1 : Int32} {v2 : Int32} {v3 : Int32} {v4 : Int32} {σ : zz_St} (K : zz_K p s m args c cX8_goesTetra 6 RX8 wsX8_goesTetra D (tysM cy) A (wM ad cy) []) {Qp : Int32 → zz_St → Prop} (hret : ∀ (r : Int32) (σ2 : zz_St), narrow .boolean (.int r) = .int r → Qp r σ2 → ∀ (pc : Nat) (lv : List (Nat × Value)), decode cX8_goesTetra pc = .ok (.ireturn, 1) → zz_G p l e zrm8_goesTetra s m args below meth c Q D A (wM ad cy) 6 pc lv [.int r] σ2) (h : zq8_goesTetra_59 v1 v2 v3 v4 σ Qp) : zz_G p l e zrm8_goesTetra s m args below meth c Q D A (wM ad cy) 6 59 [(0, .ref (ad 0)), (1, .int v1), (2, .int v2), (3, .int v3), (4, .int v4)] [] σ := by
  unfold zq8_goesTetra_59 at h
  refine zz_iload_n K 3 dX8_goesTetra_59 rfl rfl ?_
  refine zz_iload_n K 1 dX8_goesTetra_60 rfl rfl ?_
  refine zz_if_ne K 68 dX8_goesTetra_61 rfl (fun c35 => ?_) (fun c35 => ?_)
  · have h := (And.left h) c35
    refine zz_iload_n K 1 dX8_goesTetra_68 rfl rfl ?_
    refine zz_iconst K dX8_goesTetra_69 zci_2 ?_
    refine zz_icmp_ne K 77 dX8_goesTetra_70 rfl (fun c36 => ?_) (fun c36 => ?_)
    · have h := (And.left h) c36
      refine zz_iconst K dX8_goesTetra_77 zci_0 ?_
      refine zz_sub [0, 1, 2, 4] [(0, .ref (ad 0)), (1, .int v1), (2, .int v2), (4, .int v4)] rfl ?_
      exact zu8_goesTetra_78 K hret h
    · have h := (And.right h) c36
      refine zz_iconst K dX8_goesTetra_73 zci_1 ?_
      refine zz_goto K 78 dX8_goesTetra_74 rfl ?_
      refine zz_sub [0, 1, 2, 4] [(0, .ref (ad 0)), (1, .int v1), (2, .int v2), (4, .int v4)] rfl ?_
      exact zu8_goesTetra_78 K hret h
  · have h := (And.right h) c35
    refine zz_iconst K dX8_goesTetra_64 zci_m1 ?_
    refine zz_goto K 78 dX8_goesTetra_65 rfl ?_
    refine zz_sub [0, 1, 2, 4] [(0, .ref (ad 0)), (1, .int v1), (2, .int v2), (4, .int v4)] rfl ?_
    exact zu8_goesTetra_78 K hret h
set_option maxHeartbeats 4000000 in
set_option maxRecDepth 100000 in
theorem zu8_goesTetra_47 {p : Program} {l : Launch} {e : Env} {s : State} {m : MethodId} {args : Array Value} {below : List Frame} {meth : Method} {c : Code} {Q : State → Prop} {D : va_G} {A : Nat → Prop} {ad : Nat → Nat} {cy : Nat → ClassId} {v1 : Int32} {v2 : Int32} {v3 : Int32} {v4 : Int32} {v5 : Int32} {σ : zz_St} (K : zz_K p s m args c cX8_goesTetra 6 RX8 wsX8_goesTetra D (tysM cy) A (wM ad cy) []) {Qp : Int32 → zz_St → Prop} (hret : ∀ (r : Int32) (σ2 : zz_St), narrow .boolean (.int r) = .int r → Qp r σ2 → ∀ (pc : Nat) (lv : List (Nat × Value)), decode cX8_goesTetra pc = .ok (.ireturn, 1) → zz_G p l e zrm8_goesTetra s m args below meth c Q D A (wM ad cy) 6 pc lv [.int r] σ2) (h : zq8_goesTetra_47 v1 v2 v3 v4 v5 σ Qp) : zz_G p l e zrm8_goesTetra s m args below meth c Q D A (wM ad cy) 6 47 [(0, .ref (ad 0)), (1, .int v1), (2, .int v2), (3, .int v3), (4, .int v4), (5, .int v5)] [] σ := by
  unfold zq8_goesTetra_47 at h
  refine zz_iload_n K 1 dX8_goesTetra_47 rfl rfl ?_
  refine zz_iconst K dX8_goesTetra_48 zci_2 ?_
  refine zz_icmp_ne K 59 dX8_goesTetra_49 rfl (fun c37 => ?_) (fun c37 => ?_)
  · have h := (And.left h) c37
    refine zz_sub [0, 1, 2, 3, 4] [(0, .ref (ad 0)), (1, .int v1), (2, .int v2), (3, .int v3), (4, .int v4)] rfl ?_
    exact zu8_goesTetra_59 K hret h
  · have h := (And.right h) c37
    refine zz_iload K 5 dX8_goesTetra_52 rfl ?_
    refine zz_if_ne K 59 dX8_goesTetra_54 rfl (fun c38 => ?_) (fun c38 => ?_)
    · have h := (And.left h) c38
      refine zz_sub [0, 1, 2, 3, 4] [(0, .ref (ad 0)), (1, .int v1), (2, .int v2), (3, .int v3), (4, .int v4)] rfl ?_
      exact zu8_goesTetra_59 K hret h
    · have h := (And.right h) c38
      refine zz_iconst K dX8_goesTetra_57 zci_0 ?_
      exact hret _ _ rfl h _ _ dX8_goesTetra_58
set_option maxHeartbeats 4000000 in
set_option maxRecDepth 100000 in
theorem zu8_goesTetra_36 {p : Program} {l : Launch} {e : Env} {s : State} {m : MethodId} {args : Array Value} {below : List Frame} {meth : Method} {c : Code} {Q : State → Prop} {D : va_G} {A : Nat → Prop} {ad : Nat → Nat} {cy : Nat → ClassId} {v1 : Int32} {v2 : Int32} {v3 : Int32} {v4 : Int32} {s0 : Int32} {σ : zz_St} (K : zz_K p s m args c cX8_goesTetra 6 RX8 wsX8_goesTetra D (tysM cy) A (wM ad cy) []) {Qp : Int32 → zz_St → Prop} (hret : ∀ (r : Int32) (σ2 : zz_St), narrow .boolean (.int r) = .int r → Qp r σ2 → ∀ (pc : Nat) (lv : List (Nat × Value)), decode cX8_goesTetra pc = .ok (.ireturn, 1) → zz_G p l e zrm8_goesTetra s m args below meth c Q D A (wM ad cy) 6 pc lv [.int r] σ2) (h : zq8_goesTetra_36 v1 v2 v3 v4 s0 σ Qp) : zz_G p l e zrm8_goesTetra s m args below meth c Q D A (wM ad cy) 6 36 [(0, .ref (ad 0)), (1, .int v1), (2, .int v2), (3, .int v3), (4, .int v4)] [.int s0] σ := by
  unfold zq8_goesTetra_36 at h
  refine zz_istore K [(5, .int s0), (0, .ref (ad 0)), (1, .int v1), (2, .int v2), (3, .int v3), (4, .int v4)] dX8_goesTetra_36 (by decide) rfl ?_
  refine zz_iload_n K 2 dX8_goesTetra_38 rfl rfl ?_
  refine zz_if_ne K 47 dX8_goesTetra_39 rfl (fun c39 => ?_) (fun c39 => ?_)
  · have h := (And.left h) c39
    refine zz_sub [1, 2, 3, 4, 5, 0] [(0, .ref (ad 0)), (1, .int v1), (2, .int v2), (3, .int v3), (4, .int v4), (5, .int s0)] rfl ?_
    exact zu8_goesTetra_47 K hret h
  · have h := (And.right h) c39
    refine zz_iload K 0 dX8_goesTetra_42 rfl ?_
    refine zz_if_ne K 57 dX8_goesTetra_44 rfl (fun c40 => ?_) (fun c40 => ?_)
    · have h := (And.left h) c40
      refine zz_iconst K dX8_goesTetra_57 zci_0 ?_
      exact hret _ _ rfl h _ _ dX8_goesTetra_58
    · have h := (And.right h) c40
      refine zz_sub [1, 2, 3, 4, 5, 0] [(0, .ref (ad 0)), (1, .int v1), (2, .int v2), (3, .int v3), (4, .int v4), (5, .int s0)] rfl ?_
      exact zu8_goesTetra_47 K hret h
set_option maxHeartbeats 4000000 in
set_option maxRecDepth 100000 in
theorem zu8_goesTetra_0 {p : Program} {l : Launch} {e : Env} {s : State} {m : MethodId} {args : Array Value} {below : List Frame} {meth : Method} {c : Code} {Q : State → Prop} {D : va_G} {A : Nat → Prop} {ad : Nat → Nat} {cy : Nat → ClassId} {v1 : Int32} {σ : zz_St} (K : zz_K p s m args c cX8_goesTetra 6 RX8 wsX8_goesTetra D (tysM cy) A (wM ad cy) []) {Qp : Int32 → zz_St → Prop} (hret : ∀ (r : Int32) (σ2 : zz_St), narrow .boolean (.int r) = .int r → Qp r σ2 → ∀ (pc : Nat) (lv : List (Nat × Value)), decode cX8_goesTetra pc = .ok (.ireturn, 1) → zz_G p l e zrm8_goesTetra s m args below meth c Q D A (wM ad cy) 6 pc lv [.int r] σ2) (h : zq8_goesTetra v1 σ Qp) : zz_G p l e zrm8_goesTetra s m args below meth c Q D A (wM ad cy) 6 0 [(0, .ref (ad 0)), (1, .int v1)] [] σ := by
  unfold zq8_goesTetra at h
  refine zz_iconst K dX8_goesTetra_0 zci_2 ?_
  refine zz_aload_n K 0 dX8_goesTetra_1 rfl rfl ?_
  refine zg8_3 K zin_X8_goesTetra_X8 zlk_X8_goesTetra_1 dX8_goesTetra_2 ?_
  refine zz_imul K dX8_goesTetra_5 ?_
  refine zz_nmi (fun x41 ex41 => ?_)
  have h := h x41 ex41
  refine zz_istore_n K [(2, .int x41), (0, .ref (ad 0)), (1, .int v1)] dX8_goesTetra_6 rfl (by decide) rfl ?_
  refine zz_aload_n K 1 dX8_goesTetra_7 rfl rfl ?_
  refine zg8_8 K zin_X8_goesTetra_X8 zlk_X8_goesTetra_2 dX8_goesTetra_8 ?_
  refine zz_iload_n K 0 dX8_goesTetra_11 rfl rfl ?_
  obtain ⟨hne, h⟩ := h
  refine zz_idiv K hne dX8_goesTetra_12 ?_
  refine zz_nmi (fun x42 ex42 => ?_)
  have h := h x42 ex42
  refine zz_istore_n K [(3, .int x42), (2, .int x41), (0, .ref (ad 0)), (1, .int v1)] dX8_goesTetra_13 rfl (by decide) rfl ?_
  refine zz_aload_n K 2 dX8_goesTetra_14 rfl rfl ?_
  refine zg8_8 K zin_X8_goesTetra_X8 zlk_X8_goesTetra_2 dX8_goesTetra_15 ?_
  refine zz_iload_n K 1 dX8_goesTetra_18 rfl rfl ?_
  obtain ⟨hne, h⟩ := h
  refine zz_irem K hne dX8_goesTetra_19 ?_
  refine zz_nmi (fun x43 ex43 => ?_)
  have h := h x43 ex43
  refine zz_istore K [(4, .int x43), (3, .int x42), (2, .int x41), (0, .ref (ad 0)), (1, .int v1)] dX8_goesTetra_20 (by decide) rfl ?_
  refine zz_iload_n K 1 dX8_goesTetra_22 rfl rfl ?_
  refine zz_iload K 0 dX8_goesTetra_23 rfl ?_
  refine zz_iadd K dX8_goesTetra_25 ?_
  refine zz_iconst K dX8_goesTetra_26 zci_2 ?_
  refine zz_irem K (by decide : ¬ (2 : Int32) = 0) dX8_goesTetra_27 ?_
  refine zz_if_ne K 35 dX8_goesTetra_28 rfl (fun c44 => ?_) (fun c44 => ?_)
  · have h := (And.left h) c44
    refine zz_iconst K dX8_goesTetra_35 zci_0 ?_
    refine zz_sub [3, 4, 2, 1, 0] [(0, .ref (ad 0)), (1, .int v1), (2, .int x41), (3, .int x42), (4, .int x43)] rfl ?_
    exact zu8_goesTetra_36 K hret h
  · have h := (And.right h) c44
    refine zz_iconst K dX8_goesTetra_31 zci_1 ?_
    refine zz_goto K 36 dX8_goesTetra_32 rfl ?_
    refine zz_sub [3, 4, 2, 1, 0] [(0, .ref (ad 0)), (1, .int v1), (2, .int x41), (3, .int x42), (4, .int x43)] rfl ?_
    exact zu8_goesTetra_36 K hret h
set_option maxRecDepth 100000 in
theorem zc8_goesTetra (l : Launch) (D : va_G) (ad : Nat → Nat) (cy : Nat → ClassId) (v1 : Int32) (σ : zz_St) (Qp : Int32 → zz_St → Prop) (h : zq8_goesTetra v1 σ Qp) : zz_Mi l yX8_goesTetra wsX8_goesTetra zrm8_goesTetra D (tysM cy) (wM ad cy) [] [.ref (ad 0), .int v1] σ Qp :=
  zz_Mi.of zz_nw_nil (wM_ad ad cy) (by decide +kernel) rfl ⟨rfl, rfl⟩ (Nat.le_of_ble_eq_true rfl) (fun p e s m args below meth c A QW K hret => zu8_goesTetra_0 K  hret h)
theorem zin_X8_goesSquare_X8 : ∀ w ∈ wsX80, w ∈ wsX8_goesSquare := fun w h => List.mem_cons_of_mem _ (List.mem_append_right _ h)
theorem zlk_X8_goesSquare_1 : Cond.fieldLink RX8 147 "SolidsRolledModel" "place" "I" ∈ wsX8_goesSquare := List.mem_of_getElem? (i := 1) rfl
theorem zlk_X8_goesSquare_2 : Cond.fieldLink RX8 26 "SolidsRolledModel" "columns" "I" ∈ wsX8_goesSquare := List.mem_of_getElem? (i := 2) rfl
theorem zlk_X8_goesSquare_3 : Cond.fieldLink RX8 23 "SolidsRolledModel" "rows" "I" ∈ wsX8_goesSquare := List.mem_of_getElem? (i := 3) rfl
theorem zds_yX8_turnsCube_v : yX8_turnsCube.cls = RX8 ∧ yX8_turnsCube.cls ≠ "java/lang/invoke/MethodHandle" ∧ yX8_turnsCube.cls ≠ "java/lang/invoke/VarHandle" ∧ (parseMethodDescriptor yX8_turnsCube.desc).map (fun d => d.parameters.length) = some 1 := by decide +kernel
abbrev zrm8_goesSquare : Room := { frames := 2, cells := 0, slots := 0, locals := 46 }
set_option maxHeartbeats 4000000 in
set_option maxRecDepth 100000 in
theorem zu8_goesSquare_112 {p : Program} {l : Launch} {e : Env} {s : State} {m : MethodId} {args : Array Value} {below : List Frame} {meth : Method} {c : Code} {Q : State → Prop} {D : va_G} {A : Nat → Prop} {ad : Nat → Nat} {cy : Nat → ClassId} {v1 : Int32} {v2 : Int32} {v3 : Int32} {σ : zz_St} (K : zz_K p s m args c cX8_goesSquare 7 RX8 wsX8_goesSquare D (tysM cy) A (wM ad cy) []) {Qp : Int32 → zz_St → Prop} (hret : ∀ (r : Int32) (σ2 : zz_St), narrow .boolean (.int r) = .int r → Qp r σ2 → ∀ (pc : Nat) (lv : List (Nat × Value)), decode cX8_goesSquare pc = .ok (.ireturn, 1) → zz_G p l e zrm8_goesSquare s m args below meth c Q D A (wM ad cy) 7 pc lv [.int r] σ2) (h : zq8_goesSquare_112 v1 v2 v3 σ Qp) : zz_G p l e zrm8_goesSquare s m args below meth c Q D A (wM ad cy) 7 112 [(0, .ref (ad 0)), (1, .int v1), (2, .int v2), (3, .int v3)] [] σ := by
  unfold zq8_goesSquare_112 at h
  refine zz_iload_n K 2 dX8_goesSquare_112 rfl rfl ?_
  refine zz_i2l K dX8_goesSquare_113 ?_
  refine zz_lconst K (v := (0 : Int64)) dX8_goesSquare_114 rfl ?_
  refine zz_aload_n K 0 dX8_goesSquare_115 rfl rfl ?_
  refine zg8_2 K zin_X8_goesSquare_X8 zlk_X8_goesSquare_3 dX8_goesSquare_116 ?_
  refine zz_iconst K dX8_goesSquare_119 zci_1 ?_
  refine zz_isub K dX8_goesSquare_120 ?_
  refine zz_i2l K dX8_goesSquare_121 ?_
  refine zz_callSi1 K zz_nw_nil [.long (v2.toInt64), .long (0 : Int64), .long ((((σ).1 2) - (1 : Int32)).toInt64)] (zc8_in l D ad cy (v2.toInt64) (0 : Int64) ((((σ).1 2) - (1 : Int32)).toInt64) σ _ h) gX8_goesSquare_X8_in rfl ⟨rfl, rfl⟩ zds_yX8_in_s ⟨Nat.le_of_ble_eq_true rfl, Nat.le_of_ble_eq_true rfl⟩ rfl rfl (Nat.le_of_ble_eq_true rfl) dX8_goesSquare_122 (fun r23 h => ?_)
  refine zz_if_eq K 144 dX8_goesSquare_125 rfl (fun c24 => ?_) (fun c24 => ?_)
  · have h := (And.left h) c24
    refine zz_iconst K dX8_goesSquare_144 zci_0 ?_
    exact hret _ _ rfl h _ _ dX8_goesSquare_145
  · have h := (And.right h) c24
    refine zz_iload_n K 3 dX8_goesSquare_128 rfl rfl ?_
    refine zz_i2l K dX8_goesSquare_129 ?_
    refine zz_lconst K (v := (0 : Int64)) dX8_goesSquare_130 rfl ?_
    refine zz_aload_n K 0 dX8_goesSquare_131 rfl rfl ?_
    refine zg8_3 K zin_X8_goesSquare_X8 zlk_X8_goesSquare_2 dX8_goesSquare_132 ?_
    refine zz_iconst K dX8_goesSquare_135 zci_1 ?_
    refine zz_isub K dX8_goesSquare_136 ?_
    refine zz_i2l K dX8_goesSquare_137 ?_
    refine zz_callSi1 K zz_nw_nil [.long (v3.toInt64), .long (0 : Int64), .long ((((σ).1 3) - (1 : Int32)).toInt64)] (zc8_in l D ad cy (v3.toInt64) (0 : Int64) ((((σ).1 3) - (1 : Int32)).toInt64) σ _ h) gX8_goesSquare_X8_in rfl ⟨rfl, rfl⟩ zds_yX8_in_s ⟨Nat.le_of_ble_eq_true rfl, Nat.le_of_ble_eq_true rfl⟩ rfl rfl (Nat.le_of_ble_eq_true rfl) dX8_goesSquare_138 (fun r25 h => ?_)
    refine zz_if_ne K 146 dX8_goesSquare_141 rfl (fun c26 => ?_) (fun c26 => ?_)
    · have h := (And.left h) c26
      refine zz_aload_n K 0 dX8_goesSquare_146 rfl rfl ?_
      refine zz_aload_n K 0 dX8_goesSquare_147 rfl rfl ?_
      refine zg8_3 K zin_X8_goesSquare_X8 zlk_X8_goesSquare_2 dX8_goesSquare_148 ?_
      refine zz_iload_n K 2 dX8_goesSquare_151 rfl rfl ?_
      refine zz_imul K dX8_goesSquare_152 ?_
      refine zz_iload_n K 3 dX8_goesSquare_153 rfl rfl ?_
      refine zz_iadd K dX8_goesSquare_154 ?_
      refine zp8_8 K zin_X8_goesSquare_X8 zlk_X8_goesSquare_1 dX8_goesSquare_155 ?_
      refine zz_nms (fun g27 eg27 => ?_)
      have h := h g27 eg27
      refine zz_aload_n K 0 dX8_goesSquare_158 rfl rfl ?_
      refine zz_iload_n K 1 dX8_goesSquare_159 rfl rfl ?_
      refine zz_callVv K zz_nw_nil [.int v1] (zc8_turnsCube l D ad cy v1 g27 _ h) gX8_goesSquare_X8_turnsCube rfl ⟨rfl, rfl⟩ zds_yX8_turnsCube_v ⟨Nat.le_of_ble_eq_true rfl, Nat.le_of_ble_eq_true rfl⟩ (wM_at_0 ad cy _) rfl rfl rfl rfl (Nat.le_of_ble_eq_true rfl) dX8_goesSquare_160 (fun g28 h => ?_)
      refine zz_iconst K dX8_goesSquare_163 zci_1 ?_
      exact hret _ _ rfl h _ _ dX8_goesSquare_164
    · have h := (And.right h) c26
      refine zz_iconst K dX8_goesSquare_144 zci_0 ?_
      exact hret _ _ rfl h _ _ dX8_goesSquare_145
set_option maxHeartbeats 4000000 in
set_option maxRecDepth 100000 in
theorem zu8_goesSquare_102 {p : Program} {l : Launch} {e : Env} {s : State} {m : MethodId} {args : Array Value} {below : List Frame} {meth : Method} {c : Code} {Q : State → Prop} {D : va_G} {A : Nat → Prop} {ad : Nat → Nat} {cy : Nat → ClassId} {v1 : Int32} {v2 : Int32} {v3 : Int32} {v6 : Int32} {σ : zz_St} (K : zz_K p s m args c cX8_goesSquare 7 RX8 wsX8_goesSquare D (tysM cy) A (wM ad cy) []) {Qp : Int32 → zz_St → Prop} (hret : ∀ (r : Int32) (σ2 : zz_St), narrow .boolean (.int r) = .int r → Qp r σ2 → ∀ (pc : Nat) (lv : List (Nat × Value)), decode cX8_goesSquare pc = .ok (.ireturn, 1) → zz_G p l e zrm8_goesSquare s m args below meth c Q D A (wM ad cy) 7 pc lv [.int r] σ2) (h : zq8_goesSquare_102 v1 v2 v3 v6 σ Qp) : zz_G p l e zrm8_goesSquare s m args below meth c Q D A (wM ad cy) 7 102 [(0, .ref (ad 0)), (1, .int v1), (2, .int v2), (3, .int v3), (6, .int v6)] [] σ := by
  unfold zq8_goesSquare_102 at h
  refine zz_iload_n K 1 dX8_goesSquare_102 rfl rfl ?_
  refine zz_iconst K dX8_goesSquare_103 zci_3 ?_
  refine zz_icmp_ne K 112 dX8_goesSquare_104 rfl (fun c29 => ?_) (fun c29 => ?_)
  · have h := (And.left h) c29
    refine zz_sub [0, 1, 2, 3] [(0, .ref (ad 0)), (1, .int v1), (2, .int v2), (3, .int v3)] rfl ?_
    exact zu8_goesSquare_112 K hret h
  · have h := (And.right h) c29
    refine zz_iload_n K 3 dX8_goesSquare_107 rfl rfl ?_
    refine zz_iload K 4 dX8_goesSquare_108 rfl ?_
    refine zz_isub K dX8_goesSquare_110 ?_
    refine zz_nmi (fun x30 ex30 => ?_)
    have h := h x30 ex30
    refine zz_istore_n K [(3, .int x30), (0, .ref (ad 0)), (1, .int v1), (2, .int v2), (6, .int v6)] dX8_goesSquare_111 rfl (by decide) rfl ?_
    refine zz_sub [1, 2, 3, 0] [(0, .ref (ad 0)), (1, .int v1), (2, .int v2), (3, .int x30)] rfl ?_
    exact zu8_goesSquare_112 K hret h
set_option maxHeartbeats 4000000 in
set_option maxRecDepth 100000 in
theorem zu8_goesSquare_92 {p : Program} {l : Launch} {e : Env} {s : State} {m : MethodId} {args : Array Value} {below : List Frame} {meth : Method} {c : Code} {Q : State → Prop} {D : va_G} {A : Nat → Prop} {ad : Nat → Nat} {cy : Nat → ClassId} {v1 : Int32} {v2 : Int32} {v3 : Int32} {v5 : Int32} {v6 : Int32} {σ : zz_St} (K : zz_K p s m args c cX8_goesSquare 7 RX8 wsX8_goesSquare D (tysM cy) A (wM ad cy) []) {Qp : Int32 → zz_St → Prop} (hret : ∀ (r : Int32) (σ2 : zz_St), narrow .boolean (.int r) = .int r → Qp r σ2 → ∀ (pc : Nat) (lv : List (Nat × Value)), decode cX8_goesSquare pc = .ok (.ireturn, 1) → zz_G p l e zrm8_goesSquare s m args below meth c Q D A (wM ad cy) 7 pc lv [.int r] σ2) (h : zq8_goesSquare_92 v1 v2 v3 v5 v6 σ Qp) : zz_G p l e zrm8_goesSquare s m args below meth c Q D A (wM ad cy) 7 92 [(0, .ref (ad 0)), (1, .int v1), (2, .int v2), (3, .int v3), (5, .int v5), (6, .int v6)] [] σ := by
  unfold zq8_goesSquare_92 at h
  refine zz_iload_n K 1 dX8_goesSquare_92 rfl rfl ?_
  refine zz_iconst K dX8_goesSquare_93 zci_2 ?_
  refine zz_icmp_ne K 102 dX8_goesSquare_94 rfl (fun c31 => ?_) (fun c31 => ?_)
  · have h := (And.left h) c31
    refine zz_sub [0, 1, 2, 3, 5] [(0, .ref (ad 0)), (1, .int v1), (2, .int v2), (3, .int v3), (6, .int v6)] rfl ?_
    exact zu8_goesSquare_102 K hret h
  · have h := (And.right h) c31
    refine zz_iload_n K 2 dX8_goesSquare_97 rfl rfl ?_
    refine zz_iload K 4 dX8_goesSquare_98 rfl ?_
    refine zz_iadd K dX8_goesSquare_100 ?_
    refine zz_nmi (fun x32 ex32 => ?_)
    have h := h x32 ex32
    refine zz_istore_n K [(2, .int x32), (0, .ref (ad 0)), (1, .int v1), (3, .int v3), (5, .int v5), (6, .int v6)] dX8_goesSquare_101 rfl (by decide) rfl ?_
    refine zz_sub [1, 2, 0, 3, 5] [(0, .ref (ad 0)), (1, .int v1), (2, .int x32), (3, .int v3), (6, .int v6)] rfl ?_
    exact zu8_goesSquare_102 K hret h
set_option maxHeartbeats 4000000 in
set_option maxRecDepth 100000 in
theorem zu8_goesSquare_82 {p : Program} {l : Launch} {e : Env} {s : State} {m : MethodId} {args : Array Value} {below : List Frame} {meth : Method} {c : Code} {Q : State → Prop} {D : va_G} {A : Nat → Prop} {ad : Nat → Nat} {cy : Nat → ClassId} {v1 : Int32} {v2 : Int32} {v3 : Int32} {v5 : Int32} {v6 : Int32} {σ : zz_St} (K : zz_K p s m args c cX8_goesSquare 7 RX8 wsX8_goesSquare D (tysM cy) A (wM ad cy) []) {Qp : Int32 → zz_St → Prop} (hret : ∀ (r : Int32) (σ2 : zz_St), narrow .boolean (.int r) = .int r → Qp r σ2 → ∀ (pc : Nat) (lv : List (Nat × Value)), decode cX8_goesSquare pc = .ok (.ireturn, 1) → zz_G p l e zrm8_goesSquare s m args below meth c Q D A (wM ad cy) 7 pc lv [.int r] σ2) (h : zq8_goesSquare_82 v1 v2 v3 v5 v6 σ Qp) : zz_G p l e zrm8_goesSquare s m args below meth c Q D A (wM ad cy) 7 82 [(0, .ref (ad 0)), (1, .int v1), (2, .int v2), (3, .int v3), (5, .int v5), (6, .int v6)] [] σ := by
  unfold zq8_goesSquare_82 at h
  refine zz_iload_n K 1 dX8_goesSquare_82 rfl rfl ?_
  refine zz_iconst K dX8_goesSquare_83 zci_1 ?_
  refine zz_icmp_ne K 92 dX8_goesSquare_84 rfl (fun c33 => ?_) (fun c33 => ?_)
  · have h := (And.left h) c33
    exact zu8_goesSquare_92 K hret h
  · have h := (And.right h) c33
    refine zz_iload_n K 3 dX8_goesSquare_87 rfl rfl ?_
    refine zz_iload K 4 dX8_goesSquare_88 rfl ?_
    refine zz_iadd K dX8_goesSquare_90 ?_
    refine zz_nmi (fun x34 ex34 => ?_)
    have h := h x34 ex34
    refine zz_istore_n K [(3, .int x34), (0, .ref (ad 0)), (1, .int v1), (2, .int v2), (5, .int v5), (6, .int v6)] dX8_goesSquare_91 rfl (by decide) rfl ?_
    refine zz_sub [1, 2, 3, 0, 4, 5] [(0, .ref (ad 0)), (1, .int v1), (2, .int v2), (3, .int x34), (5, .int v5), (6, .int v6)] rfl ?_
    exact zu8_goesSquare_92 K hret h
set_option maxHeartbeats 4000000 in
set_option maxRecDepth 100000 in
theorem zu8_goesSquare_71 {p : Program} {l : Launch} {e : Env} {s : State} {m : MethodId} {args : Array Value} {below : List Frame} {meth : Method} {c : Code} {Q : State → Prop} {D : va_G} {A : Nat → Prop} {ad : Nat → Nat} {cy : Nat → ClassId} {v1 : Int32} {v2 : Int32} {v3 : Int32} {v5 : Int32} {s0 : Int32} {σ : zz_St} (K : zz_K p s m args c cX8_goesSquare 7 RX8 wsX8_goesSquare D (tysM cy) A (wM ad cy) []) {Qp : Int32 → zz_St → Prop} (hret : ∀ (r : Int32) (σ2 : zz_St), narrow .boolean (.int r) = .int r → Qp r σ2 → ∀ (pc : Nat) (lv : List (Nat × Value)), decode cX8_goesSquare pc = .ok (.ireturn, 1) → zz_G p l e zrm8_goesSquare s m args below meth c Q D A (wM ad cy) 7 pc lv [.int r] σ2) (h : zq8_goesSquare_71 v1 v2 v3 v5 s0 σ Qp) : zz_G p l e zrm8_goesSquare s m args below meth c Q D A (wM ad cy) 7 71 [(0, .ref (ad 0)), (1, .int v1), (2, .int v2), (3, .int v3), (5, .int v5)] [.int s0] σ := by
  unfold zq8_goesSquare_71 at h
  refine zz_istore K [(6, .int s0), (0, .ref (ad 0)), (1, .int v1), (2, .int v2), (3, .int v3), (5, .int v5)] dX8_goesSquare_71 (by decide) rfl ?_
  refine zz_iload_n K 2 dX8_goesSquare_73 rfl rfl ?_
  refine zz_if_ne K 82 dX8_goesSquare_74 rfl (fun c35 => ?_) (fun c35 => ?_)
  · have h := (And.left h) c35
    refine zz_sub [1, 2, 3, 4, 5, 0] [(0, .ref (ad 0)), (1, .int v1), (2, .int v2), (3, .int v3), (5, .int v5), (6, .int s0)] rfl ?_
    exact zu8_goesSquare_82 K hret h
  · have h := (And.right h) c35
    refine zz_iload_n K 3 dX8_goesSquare_77 rfl rfl ?_
    refine zz_iload K 0 dX8_goesSquare_78 rfl ?_
    refine zz_isub K dX8_goesSquare_80 ?_
    refine zz_nmi (fun x36 ex36 => ?_)
    have h := h x36 ex36
    refine zz_istore_n K [(2, .int x36), (6, .int s0), (0, .ref (ad 0)), (1, .int v1), (3, .int v3), (5, .int v5)] dX8_goesSquare_81 rfl (by decide) rfl ?_
    refine zz_sub [2, 3, 0, 4, 5, 1] [(0, .ref (ad 0)), (1, .int v1), (2, .int x36), (3, .int v3), (5, .int v5), (6, .int s0)] rfl ?_
    exact zu8_goesSquare_82 K hret h
set_option maxHeartbeats 4000000 in
set_option maxRecDepth 100000 in
theorem zu8_goesSquare_59 {p : Program} {l : Launch} {e : Env} {s : State} {m : MethodId} {args : Array Value} {below : List Frame} {meth : Method} {c : Code} {Q : State → Prop} {D : va_G} {A : Nat → Prop} {ad : Nat → Nat} {cy : Nat → ClassId} {v1 : Int32} {v2 : Int32} {v3 : Int32} {v4 : Int32} {s0 : Int32} {σ : zz_St} (K : zz_K p s m args c cX8_goesSquare 7 RX8 wsX8_goesSquare D (tysM cy) A (wM ad cy) []) {Qp : Int32 → zz_St → Prop} (hret : ∀ (r : Int32) (σ2 : zz_St), narrow .boolean (.int r) = .int r → Qp r σ2 → ∀ (pc : Nat) (lv : List (Nat × Value)), decode cX8_goesSquare pc = .ok (.ireturn, 1) → zz_G p l e zrm8_goesSquare s m args below meth c Q D A (wM ad cy) 7 pc lv [.int r] σ2) (h : zq8_goesSquare_59 v1 v2 v3 v4 s0 σ Qp) : zz_G p l e zrm8_goesSquare s m args below meth c Q D A (wM ad cy) 7 59 [(0, .ref (ad 0)), (1, .int v1), (2, .int v2), (3, .int v3), (4, .int v4)] [.int s0] σ := by
  unfold zq8_goesSquare_59 at h
  refine zz_istore K [(5, .int s0), (0, .ref (ad 0)), (1, .int v1), (2, .int v2), (3, .int v3), (4, .int v4)] dX8_goesSquare_59 (by decide) rfl ?_
  refine zz_iload K 5 dX8_goesSquare_61 rfl ?_
  refine zz_if_ne K 70 dX8_goesSquare_63 rfl (fun c37 => ?_) (fun c37 => ?_)
  · have h := (And.left h) c37
    refine zz_iconst K dX8_goesSquare_70 zci_1 ?_
    refine zz_sub [1, 2, 3, 4, 0] [(0, .ref (ad 0)), (1, .int v1), (2, .int v2), (3, .int v3), (5, .int s0)] rfl ?_
    exact zu8_goesSquare_71 K hret h
  · have h := (And.right h) c37
    refine zz_iconst K dX8_goesSquare_66 zci_2 ?_
    refine zz_goto K 71 dX8_goesSquare_67 rfl ?_
    refine zz_sub [1, 2, 3, 4, 0] [(0, .ref (ad 0)), (1, .int v1), (2, .int v2), (3, .int v3), (5, .int s0)] rfl ?_
    exact zu8_goesSquare_71 K hret h
set_option maxHeartbeats 4000000 in
set_option maxRecDepth 100000 in
theorem zu8_goesSquare_51 {p : Program} {l : Launch} {e : Env} {s : State} {m : MethodId} {args : Array Value} {below : List Frame} {meth : Method} {c : Code} {Q : State → Prop} {D : va_G} {A : Nat → Prop} {ad : Nat → Nat} {cy : Nat → ClassId} {v1 : Int32} {v2 : Int32} {v3 : Int32} {v4 : Int32} {s0 : Int32} {s1 : Int32} {σ : zz_St} (K : zz_K p s m args c cX8_goesSquare 7 RX8 wsX8_goesSquare D (tysM cy) A (wM ad cy) []) {Qp : Int32 → zz_St → Prop} (hret : ∀ (r : Int32) (σ2 : zz_St), narrow .boolean (.int r) = .int r → Qp r σ2 → ∀ (pc : Nat) (lv : List (Nat × Value)), decode cX8_goesSquare pc = .ok (.ireturn, 1) → zz_G p l e zrm8_goesSquare s m args below meth c Q D A (wM ad cy) 7 pc lv [.int r] σ2) (h : zq8_goesSquare_51 v1 v2 v3 v4 s0 s1 σ Qp) : zz_G p l e zrm8_goesSquare s m args below meth c Q D A (wM ad cy) 7 51 [(0, .ref (ad 0)), (1, .int v1), (2, .int v2), (3, .int v3), (4, .int v4)] [.int s0, .int s1] σ := by
  unfold zq8_goesSquare_51 at h
  refine zz_icmp_ne K 58 dX8_goesSquare_51 rfl (fun c38 => ?_) (fun c38 => ?_)
  · have h := (And.left h) c38
    refine zz_iconst K dX8_goesSquare_58 zci_1 ?_
    exact zu8_goesSquare_59 K hret h
  · have h := (And.right h) c38
    refine zz_iconst K dX8_goesSquare_54 zci_2 ?_
    refine zz_goto K 59 dX8_goesSquare_55 rfl ?_
    exact zu8_goesSquare_59 K hret h
set_option maxHeartbeats 4000000 in
set_option maxRecDepth 100000 in
theorem zu8_goesSquare_35 {p : Program} {l : Launch} {e : Env} {s : State} {m : MethodId} {args : Array Value} {below : List Frame} {meth : Method} {c : Code} {Q : State → Prop} {D : va_G} {A : Nat → Prop} {ad : Nat → Nat} {cy : Nat → ClassId} {v1 : Int32} {v2 : Int32} {v3 : Int32} {s0 : Int32} {σ : zz_St} (K : zz_K p s m args c cX8_goesSquare 7 RX8 wsX8_goesSquare D (tysM cy) A (wM ad cy) []) {Qp : Int32 → zz_St → Prop} (hret : ∀ (r : Int32) (σ2 : zz_St), narrow .boolean (.int r) = .int r → Qp r σ2 → ∀ (pc : Nat) (lv : List (Nat × Value)), decode cX8_goesSquare pc = .ok (.ireturn, 1) → zz_G p l e zrm8_goesSquare s m args below meth c Q D A (wM ad cy) 7 pc lv [.int r] σ2) (h : zq8_goesSquare_35 v1 v2 v3 s0 σ Qp) : zz_G p l e zrm8_goesSquare s m args below meth c Q D A (wM ad cy) 7 35 [(0, .ref (ad 0)), (1, .int v1), (2, .int v2), (3, .int v3)] [.int s0] σ := by
  unfold zq8_goesSquare_35 at h
  refine zz_istore K [(4, .int s0), (0, .ref (ad 0)), (1, .int v1), (2, .int v2), (3, .int v3)] dX8_goesSquare_35 (by decide) rfl ?_
  refine zz_iload K 0 dX8_goesSquare_37 rfl ?_
  refine zz_iload_n K 2 dX8_goesSquare_39 rfl rfl ?_
  refine zz_iconst K dX8_goesSquare_40 zci_2 ?_
  refine zz_irem K (by decide : ¬ (2 : Int32) = 0) dX8_goesSquare_41 ?_
  refine zz_iconst K dX8_goesSquare_42 zci_1 ?_
  refine zz_icmp_ne K 50 dX8_goesSquare_43 rfl (fun c39 => ?_) (fun c39 => ?_)
  · have h := (And.left h) c39
    refine zz_iconst K dX8_goesSquare_50 zci_2 ?_
    refine zz_sub [1, 2, 3, 4, 0] [(0, .ref (ad 0)), (1, .int v1), (2, .int v2), (3, .int v3), (4, .int s0)] rfl ?_
    exact zu8_goesSquare_51 K hret h
  · have h := (And.right h) c39
    refine zz_iconst K dX8_goesSquare_46 zci_1 ?_
    refine zz_goto K 51 dX8_goesSquare_47 rfl ?_
    refine zz_sub [1, 2, 3, 4, 0] [(0, .ref (ad 0)), (1, .int v1), (2, .int v2), (3, .int v3), (4, .int s0)] rfl ?_
    exact zu8_goesSquare_51 K hret h
set_option maxHeartbeats 4000000 in
set_option maxRecDepth 100000 in
theorem zu8_goesSquare_0 {p : Program} {l : Launch} {e : Env} {s : State} {m : MethodId} {args : Array Value} {below : List Frame} {meth : Method} {c : Code} {Q : State → Prop} {D : va_G} {A : Nat → Prop} {ad : Nat → Nat} {cy : Nat → ClassId} {v1 : Int32} {σ : zz_St} (K : zz_K p s m args c cX8_goesSquare 7 RX8 wsX8_goesSquare D (tysM cy) A (wM ad cy) []) {Qp : Int32 → zz_St → Prop} (hret : ∀ (r : Int32) (σ2 : zz_St), narrow .boolean (.int r) = .int r → Qp r σ2 → ∀ (pc : Nat) (lv : List (Nat × Value)), decode cX8_goesSquare pc = .ok (.ireturn, 1) → zz_G p l e zrm8_goesSquare s m args below meth c Q D A (wM ad cy) 7 pc lv [.int r] σ2) (h : zq8_goesSquare v1 σ Qp) : zz_G p l e zrm8_goesSquare s m args below meth c Q D A (wM ad cy) 7 0 [(0, .ref (ad 0)), (1, .int v1)] [] σ := by
  unfold zq8_goesSquare at h
  refine zz_aload_n K 0 dX8_goesSquare_0 rfl rfl ?_
  refine zg8_8 K zin_X8_goesSquare_X8 zlk_X8_goesSquare_1 dX8_goesSquare_1 ?_
  refine zz_aload_n K 0 dX8_goesSquare_4 rfl rfl ?_
  refine zg8_3 K zin_X8_goesSquare_X8 zlk_X8_goesSquare_2 dX8_goesSquare_5 ?_
  obtain ⟨hne, h⟩ := h
  refine zz_idiv K hne dX8_goesSquare_8 ?_
  refine zz_nmi (fun x40 ex40 => ?_)
  have h := h x40 ex40
  refine zz_istore_n K [(2, .int x40), (0, .ref (ad 0)), (1, .int v1)] dX8_goesSquare_9 rfl (by decide) rfl ?_
  refine zz_aload_n K 1 dX8_goesSquare_10 rfl rfl ?_
  refine zg8_8 K zin_X8_goesSquare_X8 zlk_X8_goesSquare_1 dX8_goesSquare_11 ?_
  refine zz_aload_n K 1 dX8_goesSquare_14 rfl rfl ?_
  refine zg8_3 K zin_X8_goesSquare_X8 zlk_X8_goesSquare_2 dX8_goesSquare_15 ?_
  obtain ⟨hne, h⟩ := h
  refine zz_irem K hne dX8_goesSquare_18 ?_
  refine zz_nmi (fun x41 ex41 => ?_)
  have h := h x41 ex41
  refine zz_istore_n K [(3, .int x41), (2, .int x40), (0, .ref (ad 0)), (1, .int v1)] dX8_goesSquare_19 rfl (by decide) rfl ?_
  refine zz_aload_n K 2 dX8_goesSquare_20 rfl rfl ?_
  refine zz_callVi1 K zz_nw_nil [] (zc8_isBlock l D ad cy  σ _ h) gX8_goesSquare_X8_isBlock rfl ⟨rfl, rfl⟩ zds_yX8_isBlock_v ⟨Nat.le_of_ble_eq_true rfl, Nat.le_of_ble_eq_true rfl⟩ (wM_at_0 ad cy _) rfl rfl rfl rfl (Nat.le_of_ble_eq_true rfl) dX8_goesSquare_21 (fun r42 h => ?_)
  refine zz_if_eq K 34 dX8_goesSquare_24 rfl (fun c43 => ?_) (fun c43 => ?_)
  · have h := (And.left h) c43
    refine zz_iconst K dX8_goesSquare_34 zci_3 ?_
    refine zz_sub [2, 3, 1, 0] [(0, .ref (ad 0)), (1, .int v1), (2, .int x40), (3, .int x41)] rfl ?_
    exact zu8_goesSquare_35 K hret h
  · have h := (And.right h) c43
    refine zz_aload_n K 2 dX8_goesSquare_27 rfl rfl ?_
    refine zz_callVi1 K zz_nw_nil [] (zc8_lying l D ad cy  σ _ h) gX8_goesSquare_X8_lying rfl ⟨rfl, rfl⟩ zds_yX8_lying_v ⟨Nat.le_of_ble_eq_true rfl, Nat.le_of_ble_eq_true rfl⟩ (wM_at_0 ad cy _) rfl rfl rfl rfl (Nat.le_of_ble_eq_true rfl) dX8_goesSquare_28 (fun r44 h => ?_)
    refine zz_goto K 35 dX8_goesSquare_31 rfl ?_
    refine zz_sub [2, 3, 1, 0] [(0, .ref (ad 0)), (1, .int v1), (2, .int x40), (3, .int x41)] rfl ?_
    exact zu8_goesSquare_35 K hret h
set_option maxRecDepth 100000 in
theorem zc8_goesSquare (l : Launch) (D : va_G) (ad : Nat → Nat) (cy : Nat → ClassId) (v1 : Int32) (σ : zz_St) (Qp : Int32 → zz_St → Prop) (h : zq8_goesSquare v1 σ Qp) : zz_Mi l yX8_goesSquare wsX8_goesSquare zrm8_goesSquare D (tysM cy) (wM ad cy) [] [.ref (ad 0), .int v1] σ Qp :=
  zz_Mi.of zz_nw_nil (wM_ad ad cy) (by decide +kernel) rfl ⟨rfl, rfl⟩ (Nat.le_of_ble_eq_true rfl) (fun p e s m args below meth c A QW K hret => zu8_goesSquare_0 K  hret h)
theorem zin_X8_rolls_X8 : ∀ w ∈ wsX80, w ∈ wsX8_rolls := fun w h => List.mem_cons_of_mem _ (List.mem_append_right _ h)
theorem zlk_X8_rolls_1 : Cond.fieldLink RX8 147 "SolidsRolledModel" "place" "I" ∈ wsX8_rolls := List.mem_of_getElem? (i := 1) rfl
theorem zcb_6 : (Int8.ofInt (6)).toInt32 = (6 : Int32) := by decide
theorem zlk_X8_rolls_2 : Cond.fieldLink RX8 48 "SolidsRolledModel" "facesWere" "[I" ∈ wsX8_rolls := List.mem_of_getElem? (i := 2) rfl
theorem zlk_X8_rolls_3 : Cond.fieldLink RX8 42 "SolidsRolledModel" "faces" "[I" ∈ wsX8_rolls := List.mem_of_getElem? (i := 3) rfl
theorem zds_yX8_mayLie_v : yX8_mayLie.cls = RX8 ∧ yX8_mayLie.cls ≠ "java/lang/invoke/MethodHandle" ∧ yX8_mayLie.cls ≠ "java/lang/invoke/VarHandle" ∧ (parseMethodDescriptor yX8_mayLie.desc).map (fun d => d.parameters.length) = some 0 := by decide +kernel
theorem zds_yX8_goesSquare_v : yX8_goesSquare.cls = RX8 ∧ yX8_goesSquare.cls ≠ "java/lang/invoke/MethodHandle" ∧ yX8_goesSquare.cls ≠ "java/lang/invoke/VarHandle" ∧ (parseMethodDescriptor yX8_goesSquare.desc).map (fun d => d.parameters.length) = some 1 := by decide +kernel
theorem zds_yX8_goesTetra_v : yX8_goesTetra.cls = RX8 ∧ yX8_goesTetra.cls ≠ "java/lang/invoke/MethodHandle" ∧ yX8_goesTetra.cls ≠ "java/lang/invoke/VarHandle" ∧ (parseMethodDescriptor yX8_goesTetra.desc).map (fun d => d.parameters.length) = some 1 := by decide +kernel
abbrev zrm8_rolls : Room := { frames := 4, cells := 0, slots := 0, locals := 90 }
set_option maxHeartbeats 4000000 in
set_option maxRecDepth 100000 in
theorem zu8_rolls_82 {p : Program} {l : Launch} {e : Env} {s : State} {m : MethodId} {args : Array Value} {below : List Frame} {meth : Method} {c : Code} {Q : State → Prop} {D : va_G} {A : Nat → Prop} {ad : Nat → Nat} {cy : Nat → ClassId} {v3 : Int32} {v4 : Int32} {σ : zz_St} (K : zz_K p s m args c cX8_rolls 5 RX8 wsX8_rolls D (tysM cy) A (wM ad cy) []) {Qp : Int32 → zz_St → Prop} (hret : ∀ (r : Int32) (σ2 : zz_St), narrow .boolean (.int r) = .int r → Qp r σ2 → ∀ (pc : Nat) (lv : List (Nat × Value)), decode cX8_rolls pc = .ok (.ireturn, 1) → zz_G p l e zrm8_rolls s m args below meth c Q D A (wM ad cy) 5 pc lv [.int r] σ2) (h : zq8_rolls_82 v3 v4 σ Qp) : zz_G p l e zrm8_rolls s m args below meth c Q D A (wM ad cy) 5 82 [(0, .ref (ad 0)), (3, .int v3), (4, .int v4)] [] σ := by
  unfold zq8_rolls_82 at h
  obtain ⟨I82, M82, h0, hs⟩ := h
  have key : ∀ (n : Nat) (v4 : Int32) (σ : zz_St), M82 v4 σ < n → I82 v4 σ → zz_G p l e zrm8_rolls s m args below meth c Q D A (wM ad cy) 5 82 [(0, .ref (ad 0)), (3, .int v3), (4, .int v4)] [] σ := by
    intro n
    induction n with
    | zero => intro v4 σ hlt; exact absurd hlt (Nat.not_lt_zero _)
    | succ n ih =>
      intro v4 σ hlt hI
      have h := hs v4 σ hI
      have hB82 : ∀ (v4' : Int32) (σ' : zz_St), (fun v4' σ' => I82 v4' σ' ∧ M82 v4' σ' < M82 v4 σ) v4' σ' → zz_G p l e zrm8_rolls s m args below meth c Q D A (wM ad cy) 5 82 [(0, .ref (ad 0)), (3, .int v3), (4, .int v4')] [] σ' := fun v4' σ' hz => ih v4' σ' (Nat.lt_of_lt_of_le hz.2 (Nat.le_of_lt_succ hlt)) hz.1
      refine zz_iload K 2 dX8_rolls_82 rfl ?_
      refine zz_bipush K dX8_rolls_84 zcb_6 ?_
      refine zz_icmp_ge K 109 dX8_rolls_86 rfl (fun c19 => ?_) (fun c19 => ?_)
      · have h := (And.left h) c19
        refine zz_iload_n K 1 dX8_rolls_109 rfl rfl ?_
        obtain ⟨hnb, h⟩ := h
        exact hret _ _ (zz_nb hnb) h _ _ dX8_rolls_110
      · have h := (And.right h) c19
        refine zz_aload_n K 0 dX8_rolls_89 rfl rfl ?_
        refine zg8_10 K zin_X8_rolls_X8 zlk_X8_rolls_3 dX8_rolls_90 ?_
        refine zz_iload K 2 dX8_rolls_93 rfl ?_
        refine zz_aload_n K 0 dX8_rolls_95 rfl rfl ?_
        refine zg8_13 K zin_X8_rolls_X8 zlk_X8_rolls_2 dX8_rolls_96 ?_
        refine zz_iload K 2 dX8_rolls_99 rfl ?_
        obtain ⟨hin, h⟩ := h
        refine zz_iaload K 0 (wM_at_13 ad cy σ) rfl hin dX8_rolls_101 ?_
        obtain ⟨hin, h⟩ := h
        refine zz_iastore K 0 (σ2 := zz_A σ 10 (upd ((σ).2.1 10) v4.toNatClampNeg ((σ).2.1 13 v4.toNatClampNeg))) (wM_at_10 ad cy σ) (wM_set_10 ad cy σ _) rfl hin dX8_rolls_102 ?_
        refine zz_nms (fun g20 eg20 => ?_)
        have h := h g20 eg20
        refine zz_iinc K 2 [(4, .int (v4 + (1 : Int32))), (0, .ref (ad 0)), (3, .int v3)] dX8_rolls_103 zci_1 rfl (by decide) rfl ?_
        refine zz_goto K 82 dX8_rolls_106 rfl ?_
        refine zz_sub [1, 2, 0] [(0, .ref (ad 0)), (3, .int v3), (4, .int (v4 + (1 : Int32)))] rfl ?_
        exact hB82 (v4 + (1 : Int32)) g20 h
  exact key _ v4 σ (Nat.lt_succ_self _) h0
set_option maxHeartbeats 4000000 in
set_option maxRecDepth 100000 in
theorem zu8_rolls_69 {p : Program} {l : Launch} {e : Env} {s : State} {m : MethodId} {args : Array Value} {below : List Frame} {meth : Method} {c : Code} {Q : State → Prop} {D : va_G} {A : Nat → Prop} {ad : Nat → Nat} {cy : Nat → ClassId} {v2 : Int32} {s0 : Int32} {σ : zz_St} (K : zz_K p s m args c cX8_rolls 5 RX8 wsX8_rolls D (tysM cy) A (wM ad cy) []) {Qp : Int32 → zz_St → Prop} (hret : ∀ (r : Int32) (σ2 : zz_St), narrow .boolean (.int r) = .int r → Qp r σ2 → ∀ (pc : Nat) (lv : List (Nat × Value)), decode cX8_rolls pc = .ok (.ireturn, 1) → zz_G p l e zrm8_rolls s m args below meth c Q D A (wM ad cy) 5 pc lv [.int r] σ2) (h : zq8_rolls_69 v2 s0 σ Qp) : zz_G p l e zrm8_rolls s m args below meth c Q D A (wM ad cy) 5 69 [(0, .ref (ad 0)), (2, .int v2)] [.int s0] σ := by
  unfold zq8_rolls_69 at h
  refine zz_istore_n K [(3, .int s0), (0, .ref (ad 0)), (2, .int v2)] dX8_rolls_69 rfl (by decide) rfl ?_
  refine zz_iload_n K 0 dX8_rolls_70 rfl rfl ?_
  refine zz_if_ne K 109 dX8_rolls_71 rfl (fun c21 => ?_) (fun c21 => ?_)
  · have h := (And.left h) c21
    refine zz_iload_n K 0 dX8_rolls_109 rfl rfl ?_
    obtain ⟨hnb, h⟩ := h
    exact hret _ _ (zz_nb hnb) h _ _ dX8_rolls_110
  · have h := (And.right h) c21
    refine zz_aload_n K 1 dX8_rolls_74 rfl rfl ?_
    refine zz_iload_n K 2 dX8_rolls_75 rfl rfl ?_
    refine zp8_8 K zin_X8_rolls_X8 zlk_X8_rolls_1 dX8_rolls_76 ?_
    refine zz_nms (fun g22 eg22 => ?_)
    have h := h g22 eg22
    refine zz_iconst K dX8_rolls_79 zci_0 ?_
    refine zz_istore K [(4, .int (0 : Int32)), (3, .int s0), (0, .ref (ad 0)), (2, .int v2)] dX8_rolls_80 (by decide) rfl ?_
    refine zz_sub [2, 1, 0] [(0, .ref (ad 0)), (3, .int s0), (4, .int (0 : Int32))] rfl ?_
    exact zu8_rolls_82 K hret h
set_option maxHeartbeats 4000000 in
set_option maxRecDepth 100000 in
theorem zu8_rolls_68 {p : Program} {l : Launch} {e : Env} {s : State} {m : MethodId} {args : Array Value} {below : List Frame} {meth : Method} {c : Code} {Q : State → Prop} {D : va_G} {A : Nat → Prop} {ad : Nat → Nat} {cy : Nat → ClassId} {v2 : Int32} {σ : zz_St} (K : zz_K p s m args c cX8_rolls 5 RX8 wsX8_rolls D (tysM cy) A (wM ad cy) []) {Qp : Int32 → zz_St → Prop} (hret : ∀ (r : Int32) (σ2 : zz_St), narrow .boolean (.int r) = .int r → Qp r σ2 → ∀ (pc : Nat) (lv : List (Nat × Value)), decode cX8_rolls pc = .ok (.ireturn, 1) → zz_G p l e zrm8_rolls s m args below meth c Q D A (wM ad cy) 5 pc lv [.int r] σ2) (h : zq8_rolls_68 v2 σ Qp) : zz_G p l e zrm8_rolls s m args below meth c Q D A (wM ad cy) 5 68 [(0, .ref (ad 0)), (2, .int v2)] [] σ := by
  unfold zq8_rolls_68 at h
  refine zz_iconst K dX8_rolls_68 zci_0 ?_
  exact zu8_rolls_69 K hret h
set_option maxHeartbeats 4000000 in
set_option maxRecDepth 100000 in
theorem zu8_rolls_57 {p : Program} {l : Launch} {e : Env} {s : State} {m : MethodId} {args : Array Value} {below : List Frame} {meth : Method} {c : Code} {Q : State → Prop} {D : va_G} {A : Nat → Prop} {ad : Nat → Nat} {cy : Nat → ClassId} {v2 : Int32} {σ : zz_St} (K : zz_K p s m args c cX8_rolls 5 RX8 wsX8_rolls D (tysM cy) A (wM ad cy) []) {Qp : Int32 → zz_St → Prop} (hret : ∀ (r : Int32) (σ2 : zz_St), narrow .boolean (.int r) = .int r → Qp r σ2 → ∀ (pc : Nat) (lv : List (Nat × Value)), decode cX8_rolls pc = .ok (.ireturn, 1) → zz_G p l e zrm8_rolls s m args below meth c Q D A (wM ad cy) 5 pc lv [.int r] σ2) (h : zq8_rolls_57 v2 σ Qp) : zz_G p l e zrm8_rolls s m args below meth c Q D A (wM ad cy) 5 57 [(0, .ref (ad 0)), (2, .int v2)] [] σ := by
  unfold zq8_rolls_57 at h
  refine zz_aload_n K 0 dX8_rolls_57 rfl rfl ?_
  refine zz_callVi K zz_nw_nil [] (zc8_mayLie l D ad cy  σ _ h) gX8_rolls_X8_mayLie rfl ⟨rfl, rfl⟩ zds_yX8_mayLie_v ⟨Nat.le_of_ble_eq_true rfl, Nat.le_of_ble_eq_true rfl⟩ (wM_at_0 ad cy _) rfl rfl rfl rfl (Nat.le_of_ble_eq_true rfl) dX8_rolls_58 (fun r23 g24 h => ?_)
  refine zz_if_eq K 68 dX8_rolls_61 rfl (fun c25 => ?_) (fun c25 => ?_)
  · have h := (And.left h) c25
    exact zu8_rolls_68 K hret h
  · have h := (And.right h) c25
    refine zz_iconst K dX8_rolls_64 zci_1 ?_
    refine zz_goto K 69 dX8_rolls_65 rfl ?_
    exact zu8_rolls_69 K hret h
set_option maxHeartbeats 4000000 in
set_option maxRecDepth 100000 in
theorem zu8_rolls_7 {p : Program} {l : Launch} {e : Env} {s : State} {m : MethodId} {args : Array Value} {below : List Frame} {meth : Method} {c : Code} {Q : State → Prop} {D : va_G} {A : Nat → Prop} {ad : Nat → Nat} {cy : Nat → ClassId} {v1 : Int32} {v2 : Int32} {v3 : Int32} {σ : zz_St} (K : zz_K p s m args c cX8_rolls 5 RX8 wsX8_rolls D (tysM cy) A (wM ad cy) []) {Qp : Int32 → zz_St → Prop} (hret : ∀ (r : Int32) (σ2 : zz_St), narrow .boolean (.int r) = .int r → Qp r σ2 → ∀ (pc : Nat) (lv : List (Nat × Value)), decode cX8_rolls pc = .ok (.ireturn, 1) → zz_G p l e zrm8_rolls s m args below meth c Q D A (wM ad cy) 5 pc lv [.int r] σ2) (h : zq8_rolls_7 v1 v2 v3 σ Qp) : zz_G p l e zrm8_rolls s m args below meth c Q D A (wM ad cy) 5 7 [(0, .ref (ad 0)), (1, .int v1), (2, .int v2), (3, .int v3)] [] σ := by
  unfold zq8_rolls_7 at h
  obtain ⟨I7, M7, h0, hs⟩ := h
  have key : ∀ (n : Nat) (v3 : Int32) (σ : zz_St), M7 v3 σ < n → I7 v3 σ → zz_G p l e zrm8_rolls s m args below meth c Q D A (wM ad cy) 5 7 [(0, .ref (ad 0)), (1, .int v1), (2, .int v2), (3, .int v3)] [] σ := by
    intro n
    induction n with
    | zero => intro v3 σ hlt; exact absurd hlt (Nat.not_lt_zero _)
    | succ n ih =>
      intro v3 σ hlt hI
      have h := hs v3 σ hI
      have hB7 : ∀ (v3' : Int32) (σ' : zz_St), (fun v3' σ' => I7 v3' σ' ∧ M7 v3' σ' < M7 v3 σ) v3' σ' → zz_G p l e zrm8_rolls s m args below meth c Q D A (wM ad cy) 5 7 [(0, .ref (ad 0)), (1, .int v1), (2, .int v2), (3, .int v3')] [] σ' := fun v3' σ' hz => ih v3' σ' (Nat.lt_of_lt_of_le hz.2 (Nat.le_of_lt_succ hlt)) hz.1
      refine zz_iload_n K 3 dX8_rolls_7 rfl rfl ?_
      refine zz_bipush K dX8_rolls_8 zcb_6 ?_
      refine zz_icmp_ge K 31 dX8_rolls_10 rfl (fun c26 => ?_) (fun c26 => ?_)
      · have h := (And.left h) c26
        refine zz_aload_n K 0 dX8_rolls_31 rfl rfl ?_
        refine zz_callVi1 K zz_nw_nil [] (zc8_isTetra l D ad cy  σ _ h) gX8_rolls_X8_isTetra rfl ⟨rfl, rfl⟩ zds_yX8_isTetra_v ⟨Nat.le_of_ble_eq_true rfl, Nat.le_of_ble_eq_true rfl⟩ (wM_at_0 ad cy _) rfl rfl rfl rfl (Nat.le_of_ble_eq_true rfl) dX8_rolls_32 (fun r27 h => ?_)
        refine zz_if_eq K 49 dX8_rolls_35 rfl (fun c28 => ?_) (fun c28 => ?_)
        · have h := (And.left h) c28
          refine zz_aload_n K 0 dX8_rolls_49 rfl rfl ?_
          refine zz_iload_n K 1 dX8_rolls_50 rfl rfl ?_
          refine zz_callVi K zz_nw_nil [.int v1] (zc8_goesSquare l D ad cy v1 σ _ h) gX8_rolls_X8_goesSquare rfl ⟨rfl, rfl⟩ zds_yX8_goesSquare_v ⟨Nat.le_of_ble_eq_true rfl, Nat.le_of_ble_eq_true rfl⟩ (wM_at_0 ad cy _) rfl rfl rfl rfl (Nat.le_of_ble_eq_true rfl) dX8_rolls_51 (fun r29 g30 h => ?_)
          refine zz_if_eq K 68 dX8_rolls_54 rfl (fun c31 => ?_) (fun c31 => ?_)
          · have h := (And.left h) c31
            refine zz_sub [0, 2] [(0, .ref (ad 0)), (2, .int v2)] rfl ?_
            exact zu8_rolls_68 K hret h
          · have h := (And.right h) c31
            refine zz_sub [0, 2] [(0, .ref (ad 0)), (2, .int v2)] rfl ?_
            exact zu8_rolls_57 K hret h
        · have h := (And.right h) c28
          refine zz_aload_n K 0 dX8_rolls_38 rfl rfl ?_
          refine zz_iload_n K 1 dX8_rolls_39 rfl rfl ?_
          refine zz_callVi K zz_nw_nil [.int v1] (zc8_goesTetra l D ad cy v1 σ _ h) gX8_rolls_X8_goesTetra rfl ⟨rfl, rfl⟩ zds_yX8_goesTetra_v ⟨Nat.le_of_ble_eq_true rfl, Nat.le_of_ble_eq_true rfl⟩ (wM_at_0 ad cy _) rfl rfl rfl rfl (Nat.le_of_ble_eq_true rfl) dX8_rolls_40 (fun r32 g33 h => ?_)
          refine zz_if_eq K 68 dX8_rolls_43 rfl (fun c34 => ?_) (fun c34 => ?_)
          · have h := (And.left h) c34
            refine zz_sub [0, 2] [(0, .ref (ad 0)), (2, .int v2)] rfl ?_
            exact zu8_rolls_68 K hret h
          · have h := (And.right h) c34
            refine zz_goto K 57 dX8_rolls_46 rfl ?_
            refine zz_sub [0, 2] [(0, .ref (ad 0)), (2, .int v2)] rfl ?_
            exact zu8_rolls_57 K hret h
      · have h := (And.right h) c26
        refine zz_aload_n K 0 dX8_rolls_13 rfl rfl ?_
        refine zg8_13 K zin_X8_rolls_X8 zlk_X8_rolls_2 dX8_rolls_14 ?_
        refine zz_iload_n K 3 dX8_rolls_17 rfl rfl ?_
        refine zz_aload_n K 0 dX8_rolls_18 rfl rfl ?_
        refine zg8_10 K zin_X8_rolls_X8 zlk_X8_rolls_3 dX8_rolls_19 ?_
        refine zz_iload_n K 3 dX8_rolls_22 rfl rfl ?_
        obtain ⟨hin, h⟩ := h
        refine zz_iaload K 0 (wM_at_10 ad cy σ) rfl hin dX8_rolls_23 ?_
        obtain ⟨hin, h⟩ := h
        refine zz_iastore K 0 (σ2 := zz_A σ 13 (upd ((σ).2.1 13) v3.toNatClampNeg ((σ).2.1 10 v3.toNatClampNeg))) (wM_at_13 ad cy σ) (wM_set_13 ad cy σ _) rfl hin dX8_rolls_24 ?_
        refine zz_nms (fun g35 eg35 => ?_)
        have h := h g35 eg35
        refine zz_iinc K 3 [(3, .int (v3 + (1 : Int32))), (0, .ref (ad 0)), (1, .int v1), (2, .int v2)] dX8_rolls_25 zci_1 rfl (by decide) rfl ?_
        refine zz_goto K 7 dX8_rolls_28 rfl ?_
        refine zz_sub [1, 2, 3, 0] [(0, .ref (ad 0)), (1, .int v1), (2, .int v2), (3, .int (v3 + (1 : Int32)))] rfl ?_
        exact hB7 (v3 + (1 : Int32)) g35 h
  exact key _ v3 σ (Nat.lt_succ_self _) h0
set_option maxHeartbeats 4000000 in
set_option maxRecDepth 100000 in
theorem zu8_rolls_0 {p : Program} {l : Launch} {e : Env} {s : State} {m : MethodId} {args : Array Value} {below : List Frame} {meth : Method} {c : Code} {Q : State → Prop} {D : va_G} {A : Nat → Prop} {ad : Nat → Nat} {cy : Nat → ClassId} {v1 : Int32} {σ : zz_St} (K : zz_K p s m args c cX8_rolls 5 RX8 wsX8_rolls D (tysM cy) A (wM ad cy) []) {Qp : Int32 → zz_St → Prop} (hret : ∀ (r : Int32) (σ2 : zz_St), narrow .boolean (.int r) = .int r → Qp r σ2 → ∀ (pc : Nat) (lv : List (Nat × Value)), decode cX8_rolls pc = .ok (.ireturn, 1) → zz_G p l e zrm8_rolls s m args below meth c Q D A (wM ad cy) 5 pc lv [.int r] σ2) (h : zq8_rolls v1 σ Qp) : zz_G p l e zrm8_rolls s m args below meth c Q D A (wM ad cy) 5 0 [(0, .ref (ad 0)), (1, .int v1)] [] σ := by
  unfold zq8_rolls at h
  refine zz_aload_n K 0 dX8_rolls_0 rfl rfl ?_
  refine zg8_8 K zin_X8_rolls_X8 zlk_X8_rolls_1 dX8_rolls_1 ?_
  refine zz_nmi (fun x36 ex36 => ?_)
  have h := h x36 ex36
  refine zz_istore_n K [(2, .int x36), (0, .ref (ad 0)), (1, .int v1)] dX8_rolls_4 rfl (by decide) rfl ?_
  refine zz_iconst K dX8_rolls_5 zci_0 ?_
  refine zz_istore_n K [(3, .int (0 : Int32)), (2, .int x36), (0, .ref (ad 0)), (1, .int v1)] dX8_rolls_6 rfl (by decide) rfl ?_
  refine zz_sub [2, 3, 1, 0] [(0, .ref (ad 0)), (1, .int v1), (2, .int x36), (3, .int (0 : Int32))] rfl ?_
  exact zu8_rolls_7 K hret h
set_option maxRecDepth 100000 in
theorem zc8_rolls (l : Launch) (D : va_G) (ad : Nat → Nat) (cy : Nat → ClassId) (v1 : Int32) (σ : zz_St) (Qp : Int32 → zz_St → Prop) (h : zq8_rolls v1 σ Qp) : zz_Mi l yX8_rolls wsX8_rolls zrm8_rolls D (tysM cy) (wM ad cy) [] [.ref (ad 0), .int v1] σ Qp :=
  zz_Mi.of zz_nw_nil (wM_ad ad cy) (by decide +kernel) rfl ⟨rfl, rfl⟩ (Nat.le_of_ble_eq_true rfl) (fun p e s m args below meth c A QW K hret => zu8_rolls_0 K  hret h)
theorem zcs_255 : (Int16.ofInt (255)).toInt32 = (255 : Int32) := by decide
theorem zin_X8_letter_X8 : ∀ w ∈ wsX80, w ∈ wsX8_letter := fun w h => List.mem_cons_of_mem _ (List.mem_append_right _ h)
theorem zlk_X8_letter_1 : Cond.fieldLink RX8 183 "SolidsRolledModel" "lettered" "I" ∈ wsX8_letter := List.mem_of_getElem? (i := 1) rfl
theorem zcb_72 : (Int8.ofInt (72)).toInt32 = (72 : Int32) := by decide
theorem zlk_X8_letter_2 : Cond.fieldLink RX8 51 "SolidsRolledModel" "letters" "[I" ∈ wsX8_letter := List.mem_of_getElem? (i := 2) rfl
theorem zcb_m4 : (Int8.ofInt (-4)).toInt32 = (-4 : Int32) := by decide
abbrev zrm8_letter : Room := { frames := 1, cells := 0, slots := 0, locals := 21 }
set_option maxHeartbeats 4000000 in
set_option maxRecDepth 100000 in
theorem zu8_letter_27 {p : Program} {l : Launch} {e : Env} {s : State} {m : MethodId} {args : Array Value} {below : List Frame} {meth : Method} {c : Code} {Q : State → Prop} {D : va_G} {A : Nat → Prop} {ad : Nat → Nat} {cy : Nat → ClassId}  {σ : zz_St} (K : zz_K p s m args c cX8_letter 2 RX8 wsX8_letter D (tysM cy) A (wM ad cy) []) {Qp : Int32 → zz_St → Prop} (hret : ∀ (r : Int32) (σ2 : zz_St), narrow .int (.int r) = .int r → Qp r σ2 → ∀ (pc : Nat) (lv : List (Nat × Value)), decode cX8_letter pc = .ok (.ireturn, 1) → zz_G p l e zrm8_letter s m args below meth c Q D A (wM ad cy) 2 pc lv [.int r] σ2) (h : zq8_letter_27 σ Qp) : zz_G p l e zrm8_letter s m args below meth c Q D A (wM ad cy) 2 27 [(0, .ref (ad 0))] [] σ := by
  unfold zq8_letter_27 at h
  refine zz_aload_n K 0 dX8_letter_27 rfl rfl ?_
  refine zz_bipush K dX8_letter_28 zcb_m6 ?_
  refine zz_callVi K zz_nw_nil [.int (-6 : Int32)] (zc8_no l D ad cy (-6 : Int32) σ _ h) gX8_letter_X8_no rfl ⟨rfl, rfl⟩ zds_yX8_no_v ⟨Nat.le_of_ble_eq_true rfl, Nat.le_of_ble_eq_true rfl⟩ (wM_at_0 ad cy _) rfl rfl rfl rfl (Nat.le_of_ble_eq_true rfl) dX8_letter_30 (fun r10 g11 h => ?_)
  exact hret _ _ rfl h _ _ dX8_letter_33
set_option maxHeartbeats 4000000 in
set_option maxRecDepth 100000 in
theorem zu8_letter_0 {p : Program} {l : Launch} {e : Env} {s : State} {m : MethodId} {args : Array Value} {below : List Frame} {meth : Method} {c : Code} {Q : State → Prop} {D : va_G} {A : Nat → Prop} {ad : Nat → Nat} {cy : Nat → ClassId} {v1 : Int32} {σ : zz_St} (K : zz_K p s m args c cX8_letter 2 RX8 wsX8_letter D (tysM cy) A (wM ad cy) []) {Qp : Int32 → zz_St → Prop} (hret : ∀ (r : Int32) (σ2 : zz_St), narrow .int (.int r) = .int r → Qp r σ2 → ∀ (pc : Nat) (lv : List (Nat × Value)), decode cX8_letter pc = .ok (.ireturn, 1) → zz_G p l e zrm8_letter s m args below meth c Q D A (wM ad cy) 2 pc lv [.int r] σ2) (h : zq8_letter v1 σ Qp) : zz_G p l e zrm8_letter s m args below meth c Q D A (wM ad cy) 2 0 [(0, .ref (ad 0)), (1, .int v1)] [] σ := by
  unfold zq8_letter at h
  refine zz_iload_n K 1 dX8_letter_0 rfl rfl ?_
  refine zz_if_ge K 11 dX8_letter_1 rfl (fun c12 => ?_) (fun c12 => ?_)
  · have h := (And.left h) c12
    refine zz_iload_n K 1 dX8_letter_11 rfl rfl ?_
    refine zz_sipush K dX8_letter_12 zcs_255 ?_
    refine zz_icmp_gt K 27 dX8_letter_15 rfl (fun c13 => ?_) (fun c13 => ?_)
    · have h := (And.left h) c13
      refine zz_sub [0] [(0, .ref (ad 0))] rfl ?_
      exact zu8_letter_27 K hret h
    · have h := (And.right h) c13
      refine zz_aload_n K 0 dX8_letter_18 rfl rfl ?_
      refine zg8_15 K zin_X8_letter_X8 zlk_X8_letter_1 dX8_letter_19 ?_
      refine zz_bipush K dX8_letter_22 zcb_72 ?_
      refine zz_icmp_ne K 34 dX8_letter_24 rfl (fun c14 => ?_) (fun c14 => ?_)
      · have h := (And.left h) c14
        refine zz_aload_n K 0 dX8_letter_34 rfl rfl ?_
        refine zg8_14 K zin_X8_letter_X8 zlk_X8_letter_2 dX8_letter_35 ?_
        refine zz_aload_n K 0 dX8_letter_38 rfl rfl ?_
        refine zg8_15 K zin_X8_letter_X8 zlk_X8_letter_1 dX8_letter_39 ?_
        refine zz_iload_n K 1 dX8_letter_42 rfl rfl ?_
        obtain ⟨hin, h⟩ := h
        refine zz_iastore K 0 (σ2 := zz_A σ 14 (upd ((σ).2.1 14) ((σ).1 15).toNatClampNeg v1)) (wM_at_14 ad cy σ) (wM_set_14 ad cy σ _) rfl hin dX8_letter_43 ?_
        refine zz_nms (fun g15 eg15 => ?_)
        have h := h g15 eg15
        refine zz_aload_n K 0 dX8_letter_44 rfl rfl ?_
        refine zz_dup K rfl dX8_letter_45 ?_
        refine zg8_15 K zin_X8_letter_X8 zlk_X8_letter_1 dX8_letter_46 ?_
        refine zz_iconst K dX8_letter_49 zci_1 ?_
        refine zz_iadd K dX8_letter_50 ?_
        refine zp8_15 K zin_X8_letter_X8 zlk_X8_letter_1 dX8_letter_51 ?_
        refine zz_nms (fun g16 eg16 => ?_)
        have h := h g16 eg16
        refine zz_aload_n K 0 dX8_letter_54 rfl rfl ?_
        refine zg8_15 K zin_X8_letter_X8 zlk_X8_letter_1 dX8_letter_55 ?_
        exact hret _ _ rfl h _ _ dX8_letter_58
      · have h := (And.right h) c14
        refine zz_sub [0] [(0, .ref (ad 0))] rfl ?_
        exact zu8_letter_27 K hret h
  · have h := (And.right h) c12
    refine zz_aload_n K 0 dX8_letter_4 rfl rfl ?_
    refine zz_bipush K dX8_letter_5 zcb_m4 ?_
    refine zz_callVi K zz_nw_nil [.int (-4 : Int32)] (zc8_no l D ad cy (-4 : Int32) σ _ h) gX8_letter_X8_no rfl ⟨rfl, rfl⟩ zds_yX8_no_v ⟨Nat.le_of_ble_eq_true rfl, Nat.le_of_ble_eq_true rfl⟩ (wM_at_0 ad cy _) rfl rfl rfl rfl (Nat.le_of_ble_eq_true rfl) dX8_letter_7 (fun r17 g18 h => ?_)
    exact hret _ _ rfl h _ _ dX8_letter_10
set_option maxRecDepth 100000 in
theorem zc8_letter (l : Launch) (D : va_G) (ad : Nat → Nat) (cy : Nat → ClassId) (v1 : Int32) (σ : zz_St) (Qp : Int32 → zz_St → Prop) (h : zq8_letter v1 σ Qp) : zz_Mi l yX8_letter wsX8_letter zrm8_letter D (tysM cy) (wM ad cy) [] [.ref (ad 0), .int v1] σ Qp :=
  zz_Mi.of zz_nw_nil (wM_ad ad cy) (by decide +kernel) rfl ⟨rfl, rfl⟩ (Nat.le_of_ble_eq_true rfl) (fun p e s m args below meth c A QW K hret => zu8_letter_0 K  hret h)
theorem zcb_46 : (Int8.ofInt (46)).toInt32 = (46 : Int32) := by decide
theorem zcb_35 : (Int8.ofInt (35)).toInt32 = (35 : Int32) := by decide
theorem zcb_126 : (Int8.ofInt (126)).toInt32 = (126 : Int32) := by decide
abbrev zrm8_signOf : Room := { frames := 0, cells := 0, slots := 0, locals := 0 }
set_option maxHeartbeats 4000000 in
set_option maxRecDepth 100000 in
theorem zu8_signOf_0 {p : Program} {l : Launch} {e : Env} {s : State} {m : MethodId} {args : Array Value} {below : List Frame} {meth : Method} {c : Code} {Q : State → Prop} {D : va_G} {A : Nat → Prop} {ad : Nat → Nat} {cy : Nat → ClassId} {v0 : Int32} {σ : zz_St} (K : zz_K p s m args c cX8_signOf 1 RX8 wsX8_signOf D (tysM cy) A (wM ad cy) []) {Qp : Int32 → Prop} (hret : ∀ (r : Int32), narrow .int (.int r) = .int r → Qp r → ∀ (pc : Nat) (lv : List (Nat × Value)), decode cX8_signOf pc = .ok (.ireturn, 1) → zz_G p l e zrm8_signOf s m args below meth c Q D A (wM ad cy) 1 pc lv [.int r] σ) (h : zq8_signOf v0 Qp) : zz_G p l e zrm8_signOf s m args below meth c Q D A (wM ad cy) 1 0 [(0, .int v0)] [] σ := by
  unfold zq8_signOf at h
  refine zz_iload_n K 0 dX8_signOf_0 rfl rfl ?_
  refine zz_bipush K dX8_signOf_1 zcb_46 ?_
  refine zz_icmp_ne K 10 dX8_signOf_3 rfl (fun c4 => ?_) (fun c4 => ?_)
  · have h := (And.left h) c4
    refine zz_iload_n K 0 dX8_signOf_10 rfl rfl ?_
    refine zz_bipush K dX8_signOf_11 zcb_35 ?_
    refine zz_icmp_ne K 20 dX8_signOf_13 rfl (fun c5 => ?_) (fun c5 => ?_)
    · have h := (And.left h) c5
      refine zz_iload_n K 0 dX8_signOf_20 rfl rfl ?_
      refine zz_bipush K dX8_signOf_21 zcb_126 ?_
      refine zz_icmp_ne K 30 dX8_signOf_23 rfl (fun c6 => ?_) (fun c6 => ?_)
      · have h := (And.left h) c6
        refine zz_iconst K dX8_signOf_30 zci_m1 ?_
        exact hret _ rfl h _ _ dX8_signOf_31
      · have h := (And.right h) c6
        refine zz_iconst K dX8_signOf_26 zci_2 ?_
        refine zz_goto K 31 dX8_signOf_27 rfl ?_
        exact hret _ rfl h _ _ dX8_signOf_31
    · have h := (And.right h) c5
      refine zz_iconst K dX8_signOf_16 zci_1 ?_
      refine zz_goto K 31 dX8_signOf_17 rfl ?_
      exact hret _ rfl h _ _ dX8_signOf_31
  · have h := (And.right h) c4
    refine zz_iconst K dX8_signOf_6 zci_0 ?_
    refine zz_goto K 31 dX8_signOf_7 rfl ?_
    exact hret _ rfl h _ _ dX8_signOf_31
set_option maxRecDepth 100000 in
theorem zc8_signOf (l : Launch) (D : va_G) (ad : Nat → Nat) (cy : Nat → ClassId) (v0 : Int32) (σ : zz_St) (Qp : Int32 → Prop) (h : zq8_signOf v0 Qp) : zz_Mi l yX8_signOf wsX8_signOf zrm8_signOf D (tysM cy) (wM ad cy) [] [.int v0] σ (fun r σ2 => σ2 = σ ∧ Qp r) :=
  zz_Mi.of zz_nw_nil (wM_ad ad cy) (by decide +kernel) rfl ⟨rfl, rfl⟩ (Nat.le_of_ble_eq_true rfl) (fun p e s m args below meth c A QW K hret => zu8_signOf_0 K  (fun r hn hq pc lv hd => hret r σ hn ⟨rfl, hq⟩ pc lv hd) h)
theorem zin_X8_boardFault_X8 : ∀ w ∈ wsX80, w ∈ wsX8_boardFault := fun w h => List.mem_cons_of_mem _ (List.mem_append_right _ h)
theorem zlk_X8_boardFault_1 : Cond.fieldLink RX8 186 "SolidsRolledModel" "readRows" "I" ∈ wsX8_boardFault := List.mem_of_getElem? (i := 1) rfl
theorem zlk_X8_boardFault_2 : Cond.fieldLink RX8 189 "SolidsRolledModel" "readColumns" "I" ∈ wsX8_boardFault := List.mem_of_getElem? (i := 2) rfl
theorem zlk_X8_boardFault_3 : Cond.fieldLink RX8 183 "SolidsRolledModel" "lettered" "I" ∈ wsX8_boardFault := List.mem_of_getElem? (i := 3) rfl
theorem zlk_X8_boardFault_4 : Cond.fieldLink RX8 51 "SolidsRolledModel" "letters" "[I" ∈ wsX8_boardFault := List.mem_of_getElem? (i := 4) rfl
theorem zcb_59 : (Int8.ofInt (59)).toInt32 = (59 : Int32) := by decide
theorem zds_yX8_signOf_s : yX8_signOf.cls ≠ "java/lang/invoke/MethodHandle" ∧ yX8_signOf.cls ≠ "java/lang/invoke/VarHandle" ∧ (parseMethodDescriptor yX8_signOf.desc).map (fun d => d.parameters.length) = some 1 := by decide +kernel
abbrev zrm8_boardFault : Room := { frames := 1, cells := 0, slots := 0, locals := 20 }
set_option maxHeartbeats 4000000 in
set_option maxRecDepth 100000 in
theorem zu8_boardFault_117 {p : Program} {l : Launch} {e : Env} {s : State} {m : MethodId} {args : Array Value} {below : List Frame} {meth : Method} {c : Code} {Q : State → Prop} {D : va_G} {A : Nat → Prop} {ad : Nat → Nat} {cy : Nat → ClassId} {v1 : Int32} {v2 : Int32} {σ : zz_St} (K : zz_K p s m args c cX8_boardFault 4 RX8 wsX8_boardFault D (tysM cy) A (wM ad cy) []) {Qp : Int32 → zz_St → Prop} (hret : ∀ (r : Int32) (σ2 : zz_St), narrow .int (.int r) = .int r → Qp r σ2 → ∀ (pc : Nat) (lv : List (Nat × Value)), decode cX8_boardFault pc = .ok (.ireturn, 1) → zz_G p l e zrm8_boardFault s m args below meth c Q D A (wM ad cy) 4 pc lv [.int r] σ2) {B14 : Int32 → Int32 → zz_St → Prop} (hB14 : ∀ (v1' : Int32) (v2' : Int32) (σ' : zz_St), B14 v1' v2' σ' → zz_G p l e zrm8_boardFault s m args below meth c Q D A (wM ad cy) 4 14 [(0, .ref (ad 0)), (1, .int v1'), (2, .int v2')] [] σ') (h : zq8_boardFault_117 v1 v2 σ Qp B14) : zz_G p l e zrm8_boardFault s m args below meth c Q D A (wM ad cy) 4 117 [(0, .ref (ad 0)), (1, .int v1), (2, .int v2)] [] σ := by
  unfold zq8_boardFault_117 at h
  refine zz_iinc K 2 [(2, .int (v2 + (1 : Int32))), (0, .ref (ad 0)), (1, .int v1)] dX8_boardFault_117 zci_1 rfl (by decide) rfl ?_
  refine zz_goto K 14 dX8_boardFault_120 rfl ?_
  refine zz_sub [1, 2, 0] [(0, .ref (ad 0)), (1, .int v1), (2, .int (v2 + (1 : Int32)))] rfl ?_
  exact hB14 v1 (v2 + (1 : Int32)) σ h
set_option maxHeartbeats 4000000 in
set_option maxRecDepth 100000 in
theorem zu8_boardFault_56 {p : Program} {l : Launch} {e : Env} {s : State} {m : MethodId} {args : Array Value} {below : List Frame} {meth : Method} {c : Code} {Q : State → Prop} {D : va_G} {A : Nat → Prop} {ad : Nat → Nat} {cy : Nat → ClassId} {v1 : Int32} {v2 : Int32} {σ : zz_St} (K : zz_K p s m args c cX8_boardFault 4 RX8 wsX8_boardFault D (tysM cy) A (wM ad cy) []) {Qp : Int32 → zz_St → Prop} (hret : ∀ (r : Int32) (σ2 : zz_St), narrow .int (.int r) = .int r → Qp r σ2 → ∀ (pc : Nat) (lv : List (Nat × Value)), decode cX8_boardFault pc = .ok (.ireturn, 1) → zz_G p l e zrm8_boardFault s m args below meth c Q D A (wM ad cy) 4 pc lv [.int r] σ2) {B14 : Int32 → Int32 → zz_St → Prop} (hB14 : ∀ (v1' : Int32) (v2' : Int32) (σ' : zz_St), B14 v1' v2' σ' → zz_G p l e zrm8_boardFault s m args below meth c Q D A (wM ad cy) 4 14 [(0, .ref (ad 0)), (1, .int v1'), (2, .int v2')] [] σ') (h : zq8_boardFault_56 v1 v2 σ Qp B14) : zz_G p l e zrm8_boardFault s m args below meth c Q D A (wM ad cy) 4 56 [(0, .ref (ad 0)), (1, .int v1), (2, .int v2)] [] σ := by
  unfold zq8_boardFault_56 at h
  refine zz_aload_n K 0 dX8_boardFault_56 rfl rfl ?_
  refine zz_iload_n K 1 dX8_boardFault_57 rfl rfl ?_
  refine zp8_17 K zin_X8_boardFault_X8 zlk_X8_boardFault_2 dX8_boardFault_58 ?_
  refine zz_nms (fun g18 eg18 => ?_)
  have h := h g18 eg18
  refine zz_aload_n K 0 dX8_boardFault_61 rfl rfl ?_
  refine zz_dup K rfl dX8_boardFault_62 ?_
  refine zg8_16 K zin_X8_boardFault_X8 zlk_X8_boardFault_1 dX8_boardFault_63 ?_
  refine zz_iconst K dX8_boardFault_66 zci_1 ?_
  refine zz_iadd K dX8_boardFault_67 ?_
  refine zp8_16 K zin_X8_boardFault_X8 zlk_X8_boardFault_1 dX8_boardFault_68 ?_
  refine zz_nms (fun g19 eg19 => ?_)
  have h := h g19 eg19
  refine zz_iconst K dX8_boardFault_71 zci_0 ?_
  refine zz_istore_n K [(1, .int (0 : Int32)), (0, .ref (ad 0)), (2, .int v2)] dX8_boardFault_72 rfl (by decide) rfl ?_
  refine zz_goto K 117 dX8_boardFault_73 rfl ?_
  refine zz_sub [1, 0, 2] [(0, .ref (ad 0)), (1, .int (0 : Int32)), (2, .int v2)] rfl ?_
  exact zu8_boardFault_117 K hret hB14 h
set_option maxHeartbeats 4000000 in
set_option maxRecDepth 100000 in
theorem zu8_boardFault_109 {p : Program} {l : Launch} {e : Env} {s : State} {m : MethodId} {args : Array Value} {below : List Frame} {meth : Method} {c : Code} {Q : State → Prop} {D : va_G} {A : Nat → Prop} {ad : Nat → Nat} {cy : Nat → ClassId} {v1 : Int32} {v2 : Int32} {s0 : Int32} {s1 : Int32} {σ : zz_St} (K : zz_K p s m args c cX8_boardFault 4 RX8 wsX8_boardFault D (tysM cy) A (wM ad cy) []) {Qp : Int32 → zz_St → Prop} (hret : ∀ (r : Int32) (σ2 : zz_St), narrow .int (.int r) = .int r → Qp r σ2 → ∀ (pc : Nat) (lv : List (Nat × Value)), decode cX8_boardFault pc = .ok (.ireturn, 1) → zz_G p l e zrm8_boardFault s m args below meth c Q D A (wM ad cy) 4 pc lv [.int r] σ2) {B14 : Int32 → Int32 → zz_St → Prop} (hB14 : ∀ (v1' : Int32) (v2' : Int32) (σ' : zz_St), B14 v1' v2' σ' → zz_G p l e zrm8_boardFault s m args below meth c Q D A (wM ad cy) 4 14 [(0, .ref (ad 0)), (1, .int v1'), (2, .int v2')] [] σ') (h : zq8_boardFault_109 v1 v2 s0 s1 σ Qp B14) : zz_G p l e zrm8_boardFault s m args below meth c Q D A (wM ad cy) 4 109 [(0, .ref (ad 0)), (1, .int v1), (2, .int v2)] [.int s0, .int s1] σ := by
  unfold zq8_boardFault_109 at h
  refine zz_icmp_ne K 114 dX8_boardFault_109 rfl (fun c20 => ?_) (fun c20 => ?_)
  · have h := (And.left h) c20
    refine zz_iinc K 1 [(1, .int (v1 + (1 : Int32))), (0, .ref (ad 0)), (2, .int v2)] dX8_boardFault_114 zci_1 rfl (by decide) rfl ?_
    refine zz_sub [1, 0, 2] [(0, .ref (ad 0)), (1, .int (v1 + (1 : Int32))), (2, .int v2)] rfl ?_
    exact zu8_boardFault_117 K hret hB14 h
  · have h := (And.right h) c20
    refine zz_iload_n K 2 dX8_boardFault_112 rfl rfl ?_
    exact hret _ _ rfl h _ _ dX8_boardFault_113
set_option maxHeartbeats 4000000 in
set_option maxRecDepth 100000 in
theorem zu8_boardFault_14 {p : Program} {l : Launch} {e : Env} {s : State} {m : MethodId} {args : Array Value} {below : List Frame} {meth : Method} {c : Code} {Q : State → Prop} {D : va_G} {A : Nat → Prop} {ad : Nat → Nat} {cy : Nat → ClassId} {v1 : Int32} {v2 : Int32} {σ : zz_St} (K : zz_K p s m args c cX8_boardFault 4 RX8 wsX8_boardFault D (tysM cy) A (wM ad cy) []) {Qp : Int32 → zz_St → Prop} (hret : ∀ (r : Int32) (σ2 : zz_St), narrow .int (.int r) = .int r → Qp r σ2 → ∀ (pc : Nat) (lv : List (Nat × Value)), decode cX8_boardFault pc = .ok (.ireturn, 1) → zz_G p l e zrm8_boardFault s m args below meth c Q D A (wM ad cy) 4 pc lv [.int r] σ2) (h : zq8_boardFault_14 v1 v2 σ Qp) : zz_G p l e zrm8_boardFault s m args below meth c Q D A (wM ad cy) 4 14 [(0, .ref (ad 0)), (1, .int v1), (2, .int v2)] [] σ := by
  unfold zq8_boardFault_14 at h
  obtain ⟨I14, M14, h0, hs⟩ := h
  have key : ∀ (n : Nat) (v1 : Int32) (v2 : Int32) (σ : zz_St), M14 v1 v2 σ < n → I14 v1 v2 σ → zz_G p l e zrm8_boardFault s m args below meth c Q D A (wM ad cy) 4 14 [(0, .ref (ad 0)), (1, .int v1), (2, .int v2)] [] σ := by
    intro n
    induction n with
    | zero => intro v1 v2 σ hlt; exact absurd hlt (Nat.not_lt_zero _)
    | succ n ih =>
      intro v1 v2 σ hlt hI
      have h := hs v1 v2 σ hI
      have hB14 : ∀ (v1' : Int32) (v2' : Int32) (σ' : zz_St), (fun v1' v2' σ' => I14 v1' v2' σ' ∧ M14 v1' v2' σ' < M14 v1 v2 σ) v1' v2' σ' → zz_G p l e zrm8_boardFault s m args below meth c Q D A (wM ad cy) 4 14 [(0, .ref (ad 0)), (1, .int v1'), (2, .int v2')] [] σ' := fun v1' v2' σ' hz => ih v1' v2' σ' (Nat.lt_of_lt_of_le hz.2 (Nat.le_of_lt_succ hlt)) hz.1
      refine zz_iload_n K 2 dX8_boardFault_14 rfl rfl ?_
      refine zz_aload_n K 0 dX8_boardFault_15 rfl rfl ?_
      refine zg8_15 K zin_X8_boardFault_X8 zlk_X8_boardFault_3 dX8_boardFault_16 ?_
      refine zz_icmp_ge K 123 dX8_boardFault_19 rfl (fun c21 => ?_) (fun c21 => ?_)
      · have h := (And.left h) c21
        refine zz_aload_n K 0 dX8_boardFault_123 rfl rfl ?_
        refine zg8_16 K zin_X8_boardFault_X8 zlk_X8_boardFault_1 dX8_boardFault_124 ?_
        refine zz_if_eq K 134 dX8_boardFault_127 rfl (fun c22 => ?_) (fun c22 => ?_)
        · have h := (And.left h) c22
          refine zz_aload_n K 0 dX8_boardFault_134 rfl rfl ?_
          refine zg8_15 K zin_X8_boardFault_X8 zlk_X8_boardFault_3 dX8_boardFault_135 ?_
          refine zz_goto K 142 dX8_boardFault_138 rfl ?_
          exact hret _ _ rfl h _ _ dX8_boardFault_142
        · have h := (And.right h) c22
          refine zz_iload_n K 1 dX8_boardFault_130 rfl rfl ?_
          refine zz_if_le K 141 dX8_boardFault_131 rfl (fun c23 => ?_) (fun c23 => ?_)
          · have h := (And.left h) c23
            refine zz_iconst K dX8_boardFault_141 zci_m1 ?_
            exact hret _ _ rfl h _ _ dX8_boardFault_142
          · have h := (And.right h) c23
            refine zz_aload_n K 0 dX8_boardFault_134 rfl rfl ?_
            refine zg8_15 K zin_X8_boardFault_X8 zlk_X8_boardFault_3 dX8_boardFault_135 ?_
            refine zz_goto K 142 dX8_boardFault_138 rfl ?_
            exact hret _ _ rfl h _ _ dX8_boardFault_142
      · have h := (And.right h) c21
        refine zz_aload_n K 0 dX8_boardFault_22 rfl rfl ?_
        refine zg8_14 K zin_X8_boardFault_X8 zlk_X8_boardFault_4 dX8_boardFault_23 ?_
        refine zz_iload_n K 2 dX8_boardFault_26 rfl rfl ?_
        obtain ⟨hin, h⟩ := h
        refine zz_iaload K 0 (wM_at_14 ad cy σ) rfl hin dX8_boardFault_27 ?_
        refine zz_nmi (fun x24 ex24 => ?_)
        have h := h x24 ex24
        refine zz_istore_n K [(3, .int x24), (0, .ref (ad 0)), (1, .int v1), (2, .int v2)] dX8_boardFault_28 rfl (by decide) rfl ?_
        refine zz_iload_n K 0 dX8_boardFault_29 rfl rfl ?_
        refine zz_bipush K dX8_boardFault_30 zcb_59 ?_
        refine zz_icmp_ne K 76 dX8_boardFault_32 rfl (fun c25 => ?_) (fun c25 => ?_)
        · have h := (And.left h) c25
          refine zz_iload_n K 0 dX8_boardFault_76 rfl rfl ?_
          refine zz_callSi1 K zz_nw_nil [.int x24] (zc8_signOf l D ad cy x24 σ _ h) gX8_boardFault_X8_signOf rfl ⟨rfl, rfl⟩ zds_yX8_signOf_s ⟨Nat.le_of_ble_eq_true rfl, Nat.le_of_ble_eq_true rfl⟩ rfl rfl (Nat.le_of_ble_eq_true rfl) dX8_boardFault_77 (fun r26 h => ?_)
          refine zz_if_lt K 112 dX8_boardFault_80 rfl (fun c27 => ?_) (fun c27 => ?_)
          · have h := (And.left h) c27
            refine zz_iload_n K 3 dX8_boardFault_112 rfl rfl ?_
            exact hret _ _ rfl h _ _ dX8_boardFault_113
          · have h := (And.right h) c27
            refine zz_aload_n K 1 dX8_boardFault_83 rfl rfl ?_
            refine zg8_16 K zin_X8_boardFault_X8 zlk_X8_boardFault_1 dX8_boardFault_84 ?_
            refine zz_bipush K dX8_boardFault_87 zcb_6 ?_
            refine zz_icmp_eq K 112 dX8_boardFault_89 rfl (fun c28 => ?_) (fun c28 => ?_)
            · have h := (And.left h) c28
              refine zz_iload_n K 3 dX8_boardFault_112 rfl rfl ?_
              exact hret _ _ rfl h _ _ dX8_boardFault_113
            · have h := (And.right h) c28
              refine zz_iload_n K 2 dX8_boardFault_92 rfl rfl ?_
              refine zz_aload_n K 1 dX8_boardFault_93 rfl rfl ?_
              refine zg8_16 K zin_X8_boardFault_X8 zlk_X8_boardFault_1 dX8_boardFault_94 ?_
              refine zz_if_ne K 105 dX8_boardFault_97 rfl (fun c29 => ?_) (fun c29 => ?_)
              · have h := (And.left h) c29
                refine zz_aload_n K 1 dX8_boardFault_105 rfl rfl ?_
                refine zg8_17 K zin_X8_boardFault_X8 zlk_X8_boardFault_2 dX8_boardFault_106 ?_
                refine zz_sub [1, 2, 3] [(0, .ref (ad 0)), (1, .int v1), (2, .int v2)] rfl ?_
                exact zu8_boardFault_109 K hret hB14 h
              · have h := (And.right h) c29
                refine zz_bipush K dX8_boardFault_100 zcb_6 ?_
                refine zz_goto K 109 dX8_boardFault_102 rfl ?_
                refine zz_sub [1, 2, 3] [(0, .ref (ad 0)), (1, .int v1), (2, .int v2)] rfl ?_
                exact zu8_boardFault_109 K hret hB14 h
        · have h := (And.right h) c25
          refine zz_iload_n K 2 dX8_boardFault_35 rfl rfl ?_
          refine zz_if_eq K 54 dX8_boardFault_36 rfl (fun c30 => ?_) (fun c30 => ?_)
          · have h := (And.left h) c30
            refine zz_iload_n K 3 dX8_boardFault_54 rfl rfl ?_
            exact hret _ _ rfl h _ _ dX8_boardFault_55
          · have h := (And.right h) c30
            refine zz_aload_n K 1 dX8_boardFault_39 rfl rfl ?_
            refine zg8_16 K zin_X8_boardFault_X8 zlk_X8_boardFault_1 dX8_boardFault_40 ?_
            refine zz_if_le K 56 dX8_boardFault_43 rfl (fun c31 => ?_) (fun c31 => ?_)
            · have h := (And.left h) c31
              refine zz_sub [1, 2, 3] [(0, .ref (ad 0)), (1, .int v1), (2, .int v2)] rfl ?_
              exact zu8_boardFault_56 K hret hB14 h
            · have h := (And.right h) c31
              refine zz_iload_n K 2 dX8_boardFault_46 rfl rfl ?_
              refine zz_aload_n K 1 dX8_boardFault_47 rfl rfl ?_
              refine zg8_17 K zin_X8_boardFault_X8 zlk_X8_boardFault_2 dX8_boardFault_48 ?_
              refine zz_icmp_eq K 56 dX8_boardFault_51 rfl (fun c32 => ?_) (fun c32 => ?_)
              · have h := (And.left h) c32
                refine zz_sub [1, 2, 3] [(0, .ref (ad 0)), (1, .int v1), (2, .int v2)] rfl ?_
                exact zu8_boardFault_56 K hret hB14 h
              · have h := (And.right h) c32
                refine zz_iload_n K 3 dX8_boardFault_54 rfl rfl ?_
                exact hret _ _ rfl h _ _ dX8_boardFault_55
  exact key _ v1 v2 σ (Nat.lt_succ_self _) h0
set_option maxHeartbeats 4000000 in
set_option maxRecDepth 100000 in
theorem zu8_boardFault_0 {p : Program} {l : Launch} {e : Env} {s : State} {m : MethodId} {args : Array Value} {below : List Frame} {meth : Method} {c : Code} {Q : State → Prop} {D : va_G} {A : Nat → Prop} {ad : Nat → Nat} {cy : Nat → ClassId}  {σ : zz_St} (K : zz_K p s m args c cX8_boardFault 4 RX8 wsX8_boardFault D (tysM cy) A (wM ad cy) []) {Qp : Int32 → zz_St → Prop} (hret : ∀ (r : Int32) (σ2 : zz_St), narrow .int (.int r) = .int r → Qp r σ2 → ∀ (pc : Nat) (lv : List (Nat × Value)), decode cX8_boardFault pc = .ok (.ireturn, 1) → zz_G p l e zrm8_boardFault s m args below meth c Q D A (wM ad cy) 4 pc lv [.int r] σ2) (h : zq8_boardFault σ Qp) : zz_G p l e zrm8_boardFault s m args below meth c Q D A (wM ad cy) 4 0 [(0, .ref (ad 0))] [] σ := by
  unfold zq8_boardFault at h
  refine zz_aload_n K 0 dX8_boardFault_0 rfl rfl ?_
  refine zz_iconst K dX8_boardFault_1 zci_0 ?_
  refine zp8_16 K zin_X8_boardFault_X8 zlk_X8_boardFault_1 dX8_boardFault_2 ?_
  refine zz_nms (fun g33 eg33 => ?_)
  have h := h g33 eg33
  refine zz_aload_n K 0 dX8_boardFault_5 rfl rfl ?_
  refine zz_iconst K dX8_boardFault_6 zci_0 ?_
  refine zp8_17 K zin_X8_boardFault_X8 zlk_X8_boardFault_2 dX8_boardFault_7 ?_
  refine zz_nms (fun g34 eg34 => ?_)
  have h := h g34 eg34
  refine zz_iconst K dX8_boardFault_10 zci_0 ?_
  refine zz_istore_n K [(1, .int (0 : Int32)), (0, .ref (ad 0))] dX8_boardFault_11 rfl (by decide) rfl ?_
  refine zz_iconst K dX8_boardFault_12 zci_0 ?_
  refine zz_istore_n K [(2, .int (0 : Int32)), (1, .int (0 : Int32)), (0, .ref (ad 0))] dX8_boardFault_13 rfl (by decide) rfl ?_
  refine zz_sub [2, 1, 0] [(0, .ref (ad 0)), (1, .int (0 : Int32)), (2, .int (0 : Int32))] rfl ?_
  exact zu8_boardFault_14 K hret h
set_option maxRecDepth 100000 in
theorem zc8_boardFault (l : Launch) (D : va_G) (ad : Nat → Nat) (cy : Nat → ClassId)  (σ : zz_St) (Qp : Int32 → zz_St → Prop) (h : zq8_boardFault σ Qp) : zz_Mi l yX8_boardFault wsX8_boardFault zrm8_boardFault D (tysM cy) (wM ad cy) [] [.ref (ad 0)] σ Qp :=
  zz_Mi.of zz_nw_nil (wM_ad ad cy) (by decide +kernel) rfl ⟨rfl, rfl⟩ (Nat.le_of_ble_eq_true rfl) (fun p e s m args below meth c A QW K hret => zu8_boardFault_0 K  hret h)
theorem zin_X8_placesAt_X8 : ∀ w ∈ wsX80, w ∈ wsX8_placesAt := fun w h => List.mem_cons_of_mem _ (List.mem_append_right _ h)
theorem zlk_X8_placesAt_1 : Cond.fieldLink RX8 147 "SolidsRolledModel" "place" "I" ∈ wsX8_placesAt := List.mem_of_getElem? (i := 1) rfl
theorem zlk_X8_placesAt_2 : Cond.fieldLink RX8 42 "SolidsRolledModel" "faces" "[I" ∈ wsX8_placesAt := List.mem_of_getElem? (i := 2) rfl
abbrev zrm8_placesAt : Room := { frames := 0, cells := 0, slots := 0, locals := 0 }
set_option maxHeartbeats 4000000 in
set_option maxRecDepth 100000 in
theorem zu8_placesAt_7 {p : Program} {l : Launch} {e : Env} {s : State} {m : MethodId} {args : Array Value} {below : List Frame} {meth : Method} {c : Code} {Q : State → Prop} {D : va_G} {A : Nat → Prop} {ad : Nat → Nat} {cy : Nat → ClassId} {v2 : Int32} {σ : zz_St} (K : zz_K p s m args c cX8_placesAt 3 RX8 wsX8_placesAt D (tysM cy) A (wM ad cy) []) {Qp : zz_St → Prop} (hret : ∀ (σ2 : zz_St), Qp σ2 → ∀ (pc : Nat) (lv : List (Nat × Value)), decode cX8_placesAt pc = .ok (.return_, 1) → zz_G p l e zrm8_placesAt s m args below meth c Q D A (wM ad cy) 3 pc lv [] σ2) (h : zq8_placesAt_7 v2 σ Qp) : zz_G p l e zrm8_placesAt s m args below meth c Q D A (wM ad cy) 3 7 [(0, .ref (ad 0)), (2, .int v2)] [] σ := by
  unfold zq8_placesAt_7 at h
  obtain ⟨I7, M7, h0, hs⟩ := h
  have key : ∀ (n : Nat) (v2 : Int32) (σ : zz_St), M7 v2 σ < n → I7 v2 σ → zz_G p l e zrm8_placesAt s m args below meth c Q D A (wM ad cy) 3 7 [(0, .ref (ad 0)), (2, .int v2)] [] σ := by
    intro n
    induction n with
    | zero => intro v2 σ hlt; exact absurd hlt (Nat.not_lt_zero _)
    | succ n ih =>
      intro v2 σ hlt hI
      have h := hs v2 σ hI
      have hB7 : ∀ (v2' : Int32) (σ' : zz_St), (fun v2' σ' => I7 v2' σ' ∧ M7 v2' σ' < M7 v2 σ) v2' σ' → zz_G p l e zrm8_placesAt s m args below meth c Q D A (wM ad cy) 3 7 [(0, .ref (ad 0)), (2, .int v2')] [] σ' := fun v2' σ' hz => ih v2' σ' (Nat.lt_of_lt_of_le hz.2 (Nat.le_of_lt_succ hlt)) hz.1
      refine zz_iload_n K 1 dX8_placesAt_7 rfl rfl ?_
      refine zz_bipush K dX8_placesAt_8 zcb_6 ?_
      refine zz_icmp_ge K 26 dX8_placesAt_10 rfl (fun c4 => ?_) (fun c4 => ?_)
      · have h := (And.left h) c4
        exact hret _ h _ _ dX8_placesAt_26
      · have h := (And.right h) c4
        refine zz_aload_n K 0 dX8_placesAt_13 rfl rfl ?_
        refine zg8_10 K zin_X8_placesAt_X8 zlk_X8_placesAt_2 dX8_placesAt_14 ?_
        refine zz_iload_n K 1 dX8_placesAt_17 rfl rfl ?_
        refine zz_iload_n K 1 dX8_placesAt_18 rfl rfl ?_
        obtain ⟨hin, h⟩ := h
        refine zz_iastore K 0 (σ2 := zz_A σ 10 (upd ((σ).2.1 10) v2.toNatClampNeg v2)) (wM_at_10 ad cy σ) (wM_set_10 ad cy σ _) rfl hin dX8_placesAt_19 ?_
        refine zz_nms (fun g5 eg5 => ?_)
        have h := h g5 eg5
        refine zz_iinc K 1 [(2, .int (v2 + (1 : Int32))), (0, .ref (ad 0))] dX8_placesAt_20 zci_1 rfl (by decide) rfl ?_
        refine zz_goto K 7 dX8_placesAt_23 rfl ?_
        refine zz_sub [1, 0] [(0, .ref (ad 0)), (2, .int (v2 + (1 : Int32)))] rfl ?_
        exact hB7 (v2 + (1 : Int32)) g5 h
  exact key _ v2 σ (Nat.lt_succ_self _) h0
set_option maxHeartbeats 4000000 in
set_option maxRecDepth 100000 in
theorem zu8_placesAt_0 {p : Program} {l : Launch} {e : Env} {s : State} {m : MethodId} {args : Array Value} {below : List Frame} {meth : Method} {c : Code} {Q : State → Prop} {D : va_G} {A : Nat → Prop} {ad : Nat → Nat} {cy : Nat → ClassId} {v1 : Int32} {σ : zz_St} (K : zz_K p s m args c cX8_placesAt 3 RX8 wsX8_placesAt D (tysM cy) A (wM ad cy) []) {Qp : zz_St → Prop} (hret : ∀ (σ2 : zz_St), Qp σ2 → ∀ (pc : Nat) (lv : List (Nat × Value)), decode cX8_placesAt pc = .ok (.return_, 1) → zz_G p l e zrm8_placesAt s m args below meth c Q D A (wM ad cy) 3 pc lv [] σ2) (h : zq8_placesAt v1 σ Qp) : zz_G p l e zrm8_placesAt s m args below meth c Q D A (wM ad cy) 3 0 [(0, .ref (ad 0)), (1, .int v1)] [] σ := by
  unfold zq8_placesAt at h
  refine zz_aload_n K 0 dX8_placesAt_0 rfl rfl ?_
  refine zz_iload_n K 1 dX8_placesAt_1 rfl rfl ?_
  refine zp8_8 K zin_X8_placesAt_X8 zlk_X8_placesAt_1 dX8_placesAt_2 ?_
  refine zz_nms (fun g6 eg6 => ?_)
  have h := h g6 eg6
  refine zz_iconst K dX8_placesAt_5 zci_0 ?_
  refine zz_istore_n K [(2, .int (0 : Int32)), (0, .ref (ad 0)), (1, .int v1)] dX8_placesAt_6 rfl (by decide) rfl ?_
  refine zz_sub [1, 0] [(0, .ref (ad 0)), (2, .int (0 : Int32))] rfl ?_
  exact zu8_placesAt_7 K hret h
set_option maxRecDepth 100000 in
theorem zc8_placesAt (l : Launch) (D : va_G) (ad : Nat → Nat) (cy : Nat → ClassId) (v1 : Int32) (σ : zz_St) (Qp : zz_St → Prop) (h : zq8_placesAt v1 σ Qp) : zz_Mv l yX8_placesAt wsX8_placesAt zrm8_placesAt D (tysM cy) (wM ad cy) [] [.ref (ad 0), .int v1] σ Qp :=
  zz_Mv.of zz_nw_nil (wM_ad ad cy) (by decide +kernel) rfl ⟨rfl, rfl⟩ (Nat.le_of_ble_eq_true rfl) (fun p e s m args below meth c A QW K hret => zu8_placesAt_0 K  hret h)
theorem zin_X8_board_X8 : ∀ w ∈ wsX80, w ∈ wsX8_board := fun w h => List.mem_cons_of_mem _ (List.mem_append_right _ h)
theorem zlk_X8_board_2 : Cond.fieldLink RX8 186 "SolidsRolledModel" "readRows" "I" ∈ wsX8_board := List.mem_of_getElem? (i := 2) rfl
theorem zlk_X8_board_3 : Cond.fieldLink RX8 23 "SolidsRolledModel" "rows" "I" ∈ wsX8_board := List.mem_of_getElem? (i := 3) rfl
theorem zlk_X8_board_4 : Cond.fieldLink RX8 189 "SolidsRolledModel" "readColumns" "I" ∈ wsX8_board := List.mem_of_getElem? (i := 4) rfl
theorem zlk_X8_board_5 : Cond.fieldLink RX8 26 "SolidsRolledModel" "columns" "I" ∈ wsX8_board := List.mem_of_getElem? (i := 5) rfl
theorem zlk_X8_board_1 : Cond.fieldLink RX8 183 "SolidsRolledModel" "lettered" "I" ∈ wsX8_board := List.mem_of_getElem? (i := 1) rfl
theorem zcs_m1000 : (Int16.ofInt (-1000)).toInt32 = (-1000 : Int32) := by decide
theorem zlk_X8_board_6 : Cond.fieldLink RX8 51 "SolidsRolledModel" "letters" "[I" ∈ wsX8_board := List.mem_of_getElem? (i := 6) rfl
theorem zlk_X8_board_7 : Cond.fieldLink RX8 29 "SolidsRolledModel" "tiles" "[I" ∈ wsX8_board := List.mem_of_getElem? (i := 7) rfl
theorem zcb_36 : (Int8.ofInt (36)).toInt32 = (36 : Int32) := by decide
theorem zlk_X8_board_9 : Cond.fieldLink RX8 198 "SolidsRolledModel" "done" "I" ∈ wsX8_board := List.mem_of_getElem? (i := 9) rfl
theorem zlk_X8_board_10 : Cond.fieldLink RX8 38 "SolidsRolledModel" "isThere" "Z" ∈ wsX8_board := List.mem_of_getElem? (i := 10) rfl
theorem zlk_X8_board_8 : Cond.fieldLink RX8 32 "SolidsRolledModel" "prints" "[I" ∈ wsX8_board := List.mem_of_getElem? (i := 8) rfl
theorem zds_yX8_placesAt_v : yX8_placesAt.cls = RX8 ∧ yX8_placesAt.cls ≠ "java/lang/invoke/MethodHandle" ∧ yX8_placesAt.cls ≠ "java/lang/invoke/VarHandle" ∧ (parseMethodDescriptor yX8_placesAt.desc).map (fun d => d.parameters.length) = some 1 := by decide +kernel
theorem zds_yX8_boardFault_v : yX8_boardFault.cls = RX8 ∧ yX8_boardFault.cls ≠ "java/lang/invoke/MethodHandle" ∧ yX8_boardFault.cls ≠ "java/lang/invoke/VarHandle" ∧ (parseMethodDescriptor yX8_boardFault.desc).map (fun d => d.parameters.length) = some 0 := by decide +kernel
abbrev zrm8_board : Room := { frames := 4, cells := 0, slots := 0, locals := 90 }
set_option maxHeartbeats 4000000 in
set_option maxRecDepth 100000 in
theorem zu8_board_80 {p : Program} {l : Launch} {e : Env} {s : State} {m : MethodId} {args : Array Value} {below : List Frame} {meth : Method} {c : Code} {Q : State → Prop} {D : va_G} {A : Nat → Prop} {ad : Nat → Nat} {cy : Nat → ClassId} {v2 : Int32} {v3 : Int32} {σ : zz_St} (K : zz_K p s m args c cX8_board 4 RX8 wsX8_board D (tysM cy) A (wM ad cy) []) {Qp : Int32 → zz_St → Prop} (hret : ∀ (r : Int32) (σ2 : zz_St), narrow .int (.int r) = .int r → Qp r σ2 → ∀ (pc : Nat) (lv : List (Nat × Value)), decode cX8_board pc = .ok (.ireturn, 1) → zz_G p l e zrm8_board s m args below meth c Q D A (wM ad cy) 4 pc lv [.int r] σ2) {B40 : Int32 → Int32 → zz_St → Prop} (hB40 : ∀ (v2' : Int32) (v3' : Int32) (σ' : zz_St), B40 v2' v3' σ' → zz_G p l e zrm8_board s m args below meth c Q D A (wM ad cy) 4 40 [(0, .ref (ad 0)), (2, .int v2'), (3, .int v3')] [] σ') (h : zq8_board_80 v2 v3 σ Qp B40) : zz_G p l e zrm8_board s m args below meth c Q D A (wM ad cy) 4 80 [(0, .ref (ad 0)), (2, .int v2), (3, .int v3)] [] σ := by
  unfold zq8_board_80 at h
  refine zz_iinc K 2 [(3, .int (v3 + (1 : Int32))), (0, .ref (ad 0)), (2, .int v2)] dX8_board_80 zci_1 rfl (by decide) rfl ?_
  refine zz_goto K 40 dX8_board_83 rfl ?_
  refine zz_sub [1, 2, 0] [(0, .ref (ad 0)), (2, .int v2), (3, .int (v3 + (1 : Int32)))] rfl ?_
  exact hB40 v2 (v3 + (1 : Int32)) σ h
set_option maxHeartbeats 4000000 in
set_option maxRecDepth 100000 in
theorem zu8_board_88 {p : Program} {l : Launch} {e : Env} {s : State} {m : MethodId} {args : Array Value} {below : List Frame} {meth : Method} {c : Code} {Q : State → Prop} {D : va_G} {A : Nat → Prop} {ad : Nat → Nat} {cy : Nat → ClassId} {v3 : Int32} {σ : zz_St} (K : zz_K p s m args c cX8_board 4 RX8 wsX8_board D (tysM cy) A (wM ad cy) []) {Qp : Int32 → zz_St → Prop} (hret : ∀ (r : Int32) (σ2 : zz_St), narrow .int (.int r) = .int r → Qp r σ2 → ∀ (pc : Nat) (lv : List (Nat × Value)), decode cX8_board pc = .ok (.ireturn, 1) → zz_G p l e zrm8_board s m args below meth c Q D A (wM ad cy) 4 pc lv [.int r] σ2) (h : zq8_board_88 v3 σ Qp) : zz_G p l e zrm8_board s m args below meth c Q D A (wM ad cy) 4 88 [(0, .ref (ad 0)), (3, .int v3)] [] σ := by
  unfold zq8_board_88 at h
  obtain ⟨I88, M88, h0, hs⟩ := h
  have key : ∀ (n : Nat) (v3 : Int32) (σ : zz_St), M88 v3 σ < n → I88 v3 σ → zz_G p l e zrm8_board s m args below meth c Q D A (wM ad cy) 4 88 [(0, .ref (ad 0)), (3, .int v3)] [] σ := by
    intro n
    induction n with
    | zero => intro v3 σ hlt; exact absurd hlt (Nat.not_lt_zero _)
    | succ n ih =>
      intro v3 σ hlt hI
      have h := hs v3 σ hI
      have hB88 : ∀ (v3' : Int32) (σ' : zz_St), (fun v3' σ' => I88 v3' σ' ∧ M88 v3' σ' < M88 v3 σ) v3' σ' → zz_G p l e zrm8_board s m args below meth c Q D A (wM ad cy) 4 88 [(0, .ref (ad 0)), (3, .int v3')] [] σ' := fun v3' σ' hz => ih v3' σ' (Nat.lt_of_lt_of_le hz.2 (Nat.le_of_lt_succ hlt)) hz.1
      refine zz_iload_n K 1 dX8_board_88 rfl rfl ?_
      refine zz_bipush K dX8_board_89 zcb_36 ?_
      refine zz_icmp_ge K 107 dX8_board_91 rfl (fun c20 => ?_) (fun c20 => ?_)
      · have h := (And.left h) c20
        refine zz_aload_n K 0 dX8_board_107 rfl rfl ?_
        refine zz_iconst K dX8_board_108 zci_0 ?_
        refine zp8_15 K zin_X8_board_X8 zlk_X8_board_1 dX8_board_109 ?_
        refine zz_nms (fun g21 eg21 => ?_)
        have h := h g21 eg21
        refine zz_aload_n K 0 dX8_board_112 rfl rfl ?_
        refine zz_iconst K dX8_board_113 zci_0 ?_
        refine zp8_19 K zin_X8_board_X8 zlk_X8_board_9 dX8_board_114 ?_
        refine zz_nms (fun g22 eg22 => ?_)
        have h := h g22 eg22
        refine zz_aload_n K 0 dX8_board_117 rfl rfl ?_
        refine zz_iconst K dX8_board_118 zci_0 ?_
        refine zz_callVv K zz_nw_nil [.int (0 : Int32)] (zc8_placesAt l D ad cy (0 : Int32) g22 _ h) gX8_board_X8_placesAt rfl ⟨rfl, rfl⟩ zds_yX8_placesAt_v ⟨Nat.le_of_ble_eq_true rfl, Nat.le_of_ble_eq_true rfl⟩ (wM_at_0 ad cy _) rfl rfl rfl rfl (Nat.le_of_ble_eq_true rfl) dX8_board_119 (fun g23 h => ?_)
        refine zz_aload_n K 0 dX8_board_122 rfl rfl ?_
        refine zz_aload_n K 0 dX8_board_123 rfl rfl ?_
        refine zz_callVi K zz_nw_nil [] (zc8_mayLie l D ad cy  g23 _ h) gX8_board_X8_mayLie rfl ⟨rfl, rfl⟩ zds_yX8_mayLie_v ⟨Nat.le_of_ble_eq_true rfl, Nat.le_of_ble_eq_true rfl⟩ (wM_at_0 ad cy _) rfl rfl rfl rfl (Nat.le_of_ble_eq_true rfl) dX8_board_124 (fun r24 g25 h => ?_)
        obtain ⟨hb, h⟩ := h
        refine zp8_9 K zin_X8_board_X8 zlk_X8_board_10 hb dX8_board_127 ?_
        refine zz_nms (fun g26 eg26 => ?_)
        have h := h g26 eg26
        refine zz_aload_n K 0 dX8_board_130 rfl rfl ?_
        refine zz_callVi1 K zz_nw_nil [] (zc8_tileMany l D ad cy  g26 _ h) gX8_board_X8_tileMany rfl ⟨rfl, rfl⟩ zds_yX8_tileMany_v ⟨Nat.le_of_ble_eq_true rfl, Nat.le_of_ble_eq_true rfl⟩ (wM_at_0 ad cy _) rfl rfl rfl rfl (Nat.le_of_ble_eq_true rfl) dX8_board_131 (fun r27 h => ?_)
        exact hret _ _ rfl h _ _ dX8_board_134
      · have h := (And.right h) c20
        refine zz_aload_n K 0 dX8_board_94 rfl rfl ?_
        refine zg8_5 K zin_X8_board_X8 zlk_X8_board_8 dX8_board_95 ?_
        refine zz_iload_n K 1 dX8_board_98 rfl rfl ?_
        refine zz_iconst K dX8_board_99 zci_m1 ?_
        obtain ⟨hin, h⟩ := h
        refine zz_iastore K 0 (σ2 := zz_A σ 5 (upd ((σ).2.1 5) v3.toNatClampNeg (-1 : Int32))) (wM_at_5 ad cy σ) (wM_set_5 ad cy σ _) rfl hin dX8_board_100 ?_
        refine zz_nms (fun g28 eg28 => ?_)
        have h := h g28 eg28
        refine zz_iinc K 1 [(3, .int (v3 + (1 : Int32))), (0, .ref (ad 0))] dX8_board_101 zci_1 rfl (by decide) rfl ?_
        refine zz_goto K 88 dX8_board_104 rfl ?_
        refine zz_sub [1, 0] [(0, .ref (ad 0)), (3, .int (v3 + (1 : Int32)))] rfl ?_
        exact hB88 (v3 + (1 : Int32)) g28 h
  exact key _ v3 σ (Nat.lt_succ_self _) h0
set_option maxHeartbeats 4000000 in
set_option maxRecDepth 100000 in
theorem zu8_board_40 {p : Program} {l : Launch} {e : Env} {s : State} {m : MethodId} {args : Array Value} {below : List Frame} {meth : Method} {c : Code} {Q : State → Prop} {D : va_G} {A : Nat → Prop} {ad : Nat → Nat} {cy : Nat → ClassId} {v2 : Int32} {v3 : Int32} {σ : zz_St} (K : zz_K p s m args c cX8_board 4 RX8 wsX8_board D (tysM cy) A (wM ad cy) []) {Qp : Int32 → zz_St → Prop} (hret : ∀ (r : Int32) (σ2 : zz_St), narrow .int (.int r) = .int r → Qp r σ2 → ∀ (pc : Nat) (lv : List (Nat × Value)), decode cX8_board pc = .ok (.ireturn, 1) → zz_G p l e zrm8_board s m args below meth c Q D A (wM ad cy) 4 pc lv [.int r] σ2) (h : zq8_board_40 v2 v3 σ Qp) : zz_G p l e zrm8_board s m args below meth c Q D A (wM ad cy) 4 40 [(0, .ref (ad 0)), (2, .int v2), (3, .int v3)] [] σ := by
  unfold zq8_board_40 at h
  obtain ⟨I40, M40, h0, hs⟩ := h
  have key : ∀ (n : Nat) (v2 : Int32) (v3 : Int32) (σ : zz_St), M40 v2 v3 σ < n → I40 v2 v3 σ → zz_G p l e zrm8_board s m args below meth c Q D A (wM ad cy) 4 40 [(0, .ref (ad 0)), (2, .int v2), (3, .int v3)] [] σ := by
    intro n
    induction n with
    | zero => intro v2 v3 σ hlt; exact absurd hlt (Nat.not_lt_zero _)
    | succ n ih =>
      intro v2 v3 σ hlt hI
      have h := hs v2 v3 σ hI
      have hB40 : ∀ (v2' : Int32) (v3' : Int32) (σ' : zz_St), (fun v2' v3' σ' => I40 v2' v3' σ' ∧ M40 v2' v3' σ' < M40 v2 v3 σ) v2' v3' σ' → zz_G p l e zrm8_board s m args below meth c Q D A (wM ad cy) 4 40 [(0, .ref (ad 0)), (2, .int v2'), (3, .int v3')] [] σ' := fun v2' v3' σ' hz => ih v2' v3' σ' (Nat.lt_of_lt_of_le hz.2 (Nat.le_of_lt_succ hlt)) hz.1
      refine zz_iload_n K 2 dX8_board_40 rfl rfl ?_
      refine zz_aload_n K 0 dX8_board_41 rfl rfl ?_
      refine zg8_15 K zin_X8_board_X8 zlk_X8_board_1 dX8_board_42 ?_
      refine zz_icmp_ge K 86 dX8_board_45 rfl (fun c29 => ?_) (fun c29 => ?_)
      · have h := (And.left h) c29
        refine zz_iconst K dX8_board_86 zci_0 ?_
        refine zz_istore_n K [(3, .int (0 : Int32)), (0, .ref (ad 0)), (2, .int v2)] dX8_board_87 rfl (by decide) rfl ?_
        refine zz_sub [1, 0] [(0, .ref (ad 0)), (3, .int (0 : Int32))] rfl ?_
        exact zu8_board_88 K hret h
      · have h := (And.right h) c29
        refine zz_aload_n K 0 dX8_board_48 rfl rfl ?_
        refine zg8_14 K zin_X8_board_X8 zlk_X8_board_6 dX8_board_49 ?_
        refine zz_iload_n K 2 dX8_board_52 rfl rfl ?_
        obtain ⟨hin, h⟩ := h
        refine zz_iaload K 0 (wM_at_14 ad cy σ) rfl hin dX8_board_53 ?_
        refine zz_bipush K dX8_board_54 zcb_59 ?_
        refine zz_icmp_ne K 62 dX8_board_56 rfl (fun c30 => ?_) (fun c30 => ?_)
        · have h := (And.left h) c30
          refine zz_aload_n K 0 dX8_board_62 rfl rfl ?_
          refine zg8_4 K zin_X8_board_X8 zlk_X8_board_7 dX8_board_63 ?_
          refine zz_iload_n K 1 dX8_board_66 rfl rfl ?_
          refine zz_aload_n K 0 dX8_board_67 rfl rfl ?_
          refine zg8_14 K zin_X8_board_X8 zlk_X8_board_6 dX8_board_68 ?_
          refine zz_iload_n K 2 dX8_board_71 rfl rfl ?_
          obtain ⟨hin, h⟩ := h
          refine zz_iaload K 0 (wM_at_14 ad cy σ) rfl hin dX8_board_72 ?_
          refine zz_callSi1 K zz_nw_nil [.int ((σ).2.1 14 v3.toNatClampNeg)] (zc8_signOf l D ad cy ((σ).2.1 14 v3.toNatClampNeg) σ _ h) gX8_board_X8_signOf rfl ⟨rfl, rfl⟩ zds_yX8_signOf_s ⟨Nat.le_of_ble_eq_true rfl, Nat.le_of_ble_eq_true rfl⟩ rfl rfl (Nat.le_of_ble_eq_true rfl) dX8_board_73 (fun r31 h => ?_)
          obtain ⟨hin, h⟩ := h
          refine zz_iastore K 0 (σ2 := zz_A σ 4 (upd ((σ).2.1 4) v2.toNatClampNeg r31)) (wM_at_4 ad cy σ) (wM_set_4 ad cy σ _) rfl hin dX8_board_76 ?_
          refine zz_nms (fun g32 eg32 => ?_)
          have h := h g32 eg32
          refine zz_iinc K 1 [(2, .int (v2 + (1 : Int32))), (0, .ref (ad 0)), (3, .int v3)] dX8_board_77 zci_1 rfl (by decide) rfl ?_
          refine zz_sub [1, 0, 2] [(0, .ref (ad 0)), (2, .int (v2 + (1 : Int32))), (3, .int v3)] rfl ?_
          exact zu8_board_80 K hret hB40 h
        · have h := (And.right h) c30
          refine zz_goto K 80 dX8_board_59 rfl ?_
          exact zu8_board_80 K hret hB40 h
  exact key _ v2 v3 σ (Nat.lt_succ_self _) h0
set_option maxHeartbeats 4000000 in
set_option maxRecDepth 100000 in
theorem zu8_board_0 {p : Program} {l : Launch} {e : Env} {s : State} {m : MethodId} {args : Array Value} {below : List Frame} {meth : Method} {c : Code} {Q : State → Prop} {D : va_G} {A : Nat → Prop} {ad : Nat → Nat} {cy : Nat → ClassId}  {σ : zz_St} (K : zz_K p s m args c cX8_board 4 RX8 wsX8_board D (tysM cy) A (wM ad cy) []) {Qp : Int32 → zz_St → Prop} (hret : ∀ (r : Int32) (σ2 : zz_St), narrow .int (.int r) = .int r → Qp r σ2 → ∀ (pc : Nat) (lv : List (Nat × Value)), decode cX8_board pc = .ok (.ireturn, 1) → zz_G p l e zrm8_board s m args below meth c Q D A (wM ad cy) 4 pc lv [.int r] σ2) (h : zq8_board σ Qp) : zz_G p l e zrm8_board s m args below meth c Q D A (wM ad cy) 4 0 [(0, .ref (ad 0))] [] σ := by
  unfold zq8_board at h
  refine zz_aload_n K 0 dX8_board_0 rfl rfl ?_
  refine zz_callVi K zz_nw_nil [] (zc8_boardFault l D ad cy  σ _ h) gX8_board_X8_boardFault rfl ⟨rfl, rfl⟩ zds_yX8_boardFault_v ⟨Nat.le_of_ble_eq_true rfl, Nat.le_of_ble_eq_true rfl⟩ (wM_at_0 ad cy _) rfl rfl rfl rfl (Nat.le_of_ble_eq_true rfl) dX8_board_1 (fun r33 g34 h => ?_)
  refine zz_istore_n K [(1, .int r33), (0, .ref (ad 0))] dX8_board_4 rfl (by decide) rfl ?_
  refine zz_iload_n K 0 dX8_board_5 rfl rfl ?_
  refine zz_if_lt K 20 dX8_board_6 rfl (fun c35 => ?_) (fun c35 => ?_)
  · have h := (And.left h) c35
    refine zz_aload_n K 1 dX8_board_20 rfl rfl ?_
    refine zz_aload_n K 1 dX8_board_21 rfl rfl ?_
    refine zg8_16 K zin_X8_board_X8 zlk_X8_board_2 dX8_board_22 ?_
    refine zp8_2 K zin_X8_board_X8 zlk_X8_board_3 dX8_board_25 ?_
    refine zz_nms (fun g36 eg36 => ?_)
    have h := h g36 eg36
    refine zz_aload_n K 1 dX8_board_28 rfl rfl ?_
    refine zz_aload_n K 1 dX8_board_29 rfl rfl ?_
    refine zg8_17 K zin_X8_board_X8 zlk_X8_board_4 dX8_board_30 ?_
    refine zp8_3 K zin_X8_board_X8 zlk_X8_board_5 dX8_board_33 ?_
    refine zz_nms (fun g37 eg37 => ?_)
    have h := h g37 eg37
    refine zz_iconst K dX8_board_36 zci_0 ?_
    refine zz_istore_n K [(2, .int (0 : Int32)), (1, .int r33), (0, .ref (ad 0))] dX8_board_37 rfl (by decide) rfl ?_
    refine zz_iconst K dX8_board_38 zci_0 ?_
    refine zz_istore_n K [(3, .int (0 : Int32)), (2, .int (0 : Int32)), (1, .int r33), (0, .ref (ad 0))] dX8_board_39 rfl (by decide) rfl ?_
    refine zz_sub [3, 1, 0] [(0, .ref (ad 0)), (2, .int (0 : Int32)), (3, .int (0 : Int32))] rfl ?_
    exact zu8_board_40 K hret h
  · have h := (And.right h) c35
    refine zz_aload_n K 1 dX8_board_9 rfl rfl ?_
    refine zz_iconst K dX8_board_10 zci_0 ?_
    refine zp8_15 K zin_X8_board_X8 zlk_X8_board_1 dX8_board_11 ?_
    refine zz_nms (fun g38 eg38 => ?_)
    have h := h g38 eg38
    refine zz_sipush K dX8_board_14 zcs_m1000 ?_
    refine zz_iload_n K 0 dX8_board_17 rfl rfl ?_
    refine zz_isub K dX8_board_18 ?_
    exact hret _ _ rfl h _ _ dX8_board_19
set_option maxRecDepth 100000 in
theorem zc8_board (l : Launch) (D : va_G) (ad : Nat → Nat) (cy : Nat → ClassId)  (σ : zz_St) (Qp : Int32 → zz_St → Prop) (h : zq8_board σ Qp) : zz_Mi l yX8_board wsX8_board zrm8_board D (tysM cy) (wM ad cy) [] [.ref (ad 0)] σ Qp :=
  zz_Mi.of zz_nw_nil (wM_ad ad cy) (by decide +kernel) rfl ⟨rfl, rfl⟩ (Nat.le_of_ble_eq_true rfl) (fun p e s m args below meth c A QW K hret => zu8_board_0 K  hret h)
theorem zin_X8_isUnder_X8 : ∀ w ∈ wsX80, w ∈ wsX8_isUnder := fun w h => List.mem_cons_of_mem _ (List.mem_append_right _ h)
theorem zlk_X8_isUnder_1 : Cond.fieldLink RX8 45 "SolidsRolledModel" "under" "[I" ∈ wsX8_isUnder := List.mem_of_getElem? (i := 1) rfl
theorem zlk_X8_isUnder_2 : Cond.fieldLink RX8 144 "SolidsRolledModel" "underMany" "I" ∈ wsX8_isUnder := List.mem_of_getElem? (i := 2) rfl
abbrev zrm8_isUnder : Room := { frames := 3, cells := 0, slots := 0, locals := 67 }
set_option maxHeartbeats 4000000 in
set_option maxRecDepth 100000 in
theorem zu8_isUnder_22 {p : Program} {l : Launch} {e : Env} {s : State} {m : MethodId} {args : Array Value} {below : List Frame} {meth : Method} {c : Code} {Q : State → Prop} {D : va_G} {A : Nat → Prop} {ad : Nat → Nat} {cy : Nat → ClassId} {v1 : Int32} {s0 : Int32} {σ : zz_St} (K : zz_K p s m args c cX8_isUnder 3 RX8 wsX8_isUnder D (tysM cy) A (wM ad cy) []) {Qp : Int32 → zz_St → Prop} (hret : ∀ (r : Int32) (σ2 : zz_St), narrow .boolean (.int r) = .int r → Qp r σ2 → ∀ (pc : Nat) (lv : List (Nat × Value)), decode cX8_isUnder pc = .ok (.ireturn, 1) → zz_G p l e zrm8_isUnder s m args below meth c Q D A (wM ad cy) 3 pc lv [.int r] σ2) (h : zq8_isUnder_22 v1 s0 σ Qp) : zz_G p l e zrm8_isUnder s m args below meth c Q D A (wM ad cy) 3 22 [(0, .ref (ad 0)), (1, .int v1)] [.int s0] σ := by
  unfold zq8_isUnder_22 at h
  refine zz_istore_n K [(2, .int s0), (0, .ref (ad 0)), (1, .int v1)] dX8_isUnder_22 rfl (by decide) rfl ?_
  refine zz_iload_n K 0 dX8_isUnder_23 rfl rfl ?_
  refine zz_if_ne K 45 dX8_isUnder_24 rfl (fun c8 => ?_) (fun c8 => ?_)
  · have h := (And.left h) c8
    refine zz_iconst K dX8_isUnder_45 zci_1 ?_
    refine zz_goto K 50 dX8_isUnder_46 rfl ?_
    exact hret _ _ rfl h _ _ dX8_isUnder_50
  · have h := (And.right h) c8
    refine zz_aload_n K 1 dX8_isUnder_27 rfl rfl ?_
    refine zg8_12 K zin_X8_isUnder_X8 zlk_X8_isUnder_2 dX8_isUnder_28 ?_
    refine zz_iconst K dX8_isUnder_31 zci_2 ?_
    refine zz_icmp_ne K 49 dX8_isUnder_32 rfl (fun c9 => ?_) (fun c9 => ?_)
    · have h := (And.left h) c9
      refine zz_iconst K dX8_isUnder_49 zci_0 ?_
      exact hret _ _ rfl h _ _ dX8_isUnder_50
    · have h := (And.right h) c9
      refine zz_aload_n K 1 dX8_isUnder_35 rfl rfl ?_
      refine zg8_11 K zin_X8_isUnder_X8 zlk_X8_isUnder_1 dX8_isUnder_36 ?_
      refine zz_iconst K dX8_isUnder_39 zci_1 ?_
      obtain ⟨hin, h⟩ := h
      refine zz_iaload K 0 (wM_at_11 ad cy σ) rfl hin dX8_isUnder_40 ?_
      refine zz_iload_n K 2 dX8_isUnder_41 rfl rfl ?_
      refine zz_icmp_ne K 49 dX8_isUnder_42 rfl (fun c10 => ?_) (fun c10 => ?_)
      · have h := (And.left h) c10
        refine zz_iconst K dX8_isUnder_49 zci_0 ?_
        exact hret _ _ rfl h _ _ dX8_isUnder_50
      · have h := (And.right h) c10
        refine zz_iconst K dX8_isUnder_45 zci_1 ?_
        refine zz_goto K 50 dX8_isUnder_46 rfl ?_
        exact hret _ _ rfl h _ _ dX8_isUnder_50
set_option maxHeartbeats 4000000 in
set_option maxRecDepth 100000 in
theorem zu8_isUnder_21 {p : Program} {l : Launch} {e : Env} {s : State} {m : MethodId} {args : Array Value} {below : List Frame} {meth : Method} {c : Code} {Q : State → Prop} {D : va_G} {A : Nat → Prop} {ad : Nat → Nat} {cy : Nat → ClassId} {v1 : Int32} {σ : zz_St} (K : zz_K p s m args c cX8_isUnder 3 RX8 wsX8_isUnder D (tysM cy) A (wM ad cy) []) {Qp : Int32 → zz_St → Prop} (hret : ∀ (r : Int32) (σ2 : zz_St), narrow .boolean (.int r) = .int r → Qp r σ2 → ∀ (pc : Nat) (lv : List (Nat × Value)), decode cX8_isUnder pc = .ok (.ireturn, 1) → zz_G p l e zrm8_isUnder s m args below meth c Q D A (wM ad cy) 3 pc lv [.int r] σ2) (h : zq8_isUnder_21 v1 σ Qp) : zz_G p l e zrm8_isUnder s m args below meth c Q D A (wM ad cy) 3 21 [(0, .ref (ad 0)), (1, .int v1)] [] σ := by
  unfold zq8_isUnder_21 at h
  refine zz_iconst K dX8_isUnder_21 zci_0 ?_
  exact zu8_isUnder_22 K hret h
set_option maxHeartbeats 4000000 in
set_option maxRecDepth 100000 in
theorem zu8_isUnder_0 {p : Program} {l : Launch} {e : Env} {s : State} {m : MethodId} {args : Array Value} {below : List Frame} {meth : Method} {c : Code} {Q : State → Prop} {D : va_G} {A : Nat → Prop} {ad : Nat → Nat} {cy : Nat → ClassId} {v1 : Int32} {σ : zz_St} (K : zz_K p s m args c cX8_isUnder 3 RX8 wsX8_isUnder D (tysM cy) A (wM ad cy) []) {Qp : Int32 → zz_St → Prop} (hret : ∀ (r : Int32) (σ2 : zz_St), narrow .boolean (.int r) = .int r → Qp r σ2 → ∀ (pc : Nat) (lv : List (Nat × Value)), decode cX8_isUnder pc = .ok (.ireturn, 1) → zz_G p l e zrm8_isUnder s m args below meth c Q D A (wM ad cy) 3 pc lv [.int r] σ2) (h : zq8_isUnder v1 σ Qp) : zz_G p l e zrm8_isUnder s m args below meth c Q D A (wM ad cy) 3 0 [(0, .ref (ad 0)), (1, .int v1)] [] σ := by
  unfold zq8_isUnder at h
  refine zz_aload_n K 0 dX8_isUnder_0 rfl rfl ?_
  refine zz_callVi K zz_nw_nil [] (zc8_tellsUnder l D ad cy  σ _ h) gX8_isUnder_X8_tellsUnder rfl ⟨rfl, rfl⟩ zds_yX8_tellsUnder_v ⟨Nat.le_of_ble_eq_true rfl, Nat.le_of_ble_eq_true rfl⟩ (wM_at_0 ad cy _) rfl rfl rfl rfl (Nat.le_of_ble_eq_true rfl) dX8_isUnder_1 (fun r11 g12 h => ?_)
  refine zz_if_eq K 21 dX8_isUnder_4 rfl (fun c13 => ?_) (fun c13 => ?_)
  · have h := (And.left h) c13
    exact zu8_isUnder_21 K hret h
  · have h := (And.right h) c13
    refine zz_aload_n K 0 dX8_isUnder_7 rfl rfl ?_
    refine zg8_11 K zin_X8_isUnder_X8 zlk_X8_isUnder_1 dX8_isUnder_8 ?_
    refine zz_iconst K dX8_isUnder_11 zci_0 ?_
    obtain ⟨hin, h⟩ := h
    refine zz_iaload K 0 (wM_at_11 ad cy g12) rfl hin dX8_isUnder_12 ?_
    refine zz_iload_n K 1 dX8_isUnder_13 rfl rfl ?_
    refine zz_icmp_ne K 21 dX8_isUnder_14 rfl (fun c14 => ?_) (fun c14 => ?_)
    · have h := (And.left h) c14
      exact zu8_isUnder_21 K hret h
    · have h := (And.right h) c14
      refine zz_iconst K dX8_isUnder_17 zci_1 ?_
      refine zz_goto K 22 dX8_isUnder_18 rfl ?_
      exact zu8_isUnder_22 K hret h
set_option maxRecDepth 100000 in
theorem zc8_isUnder (l : Launch) (D : va_G) (ad : Nat → Nat) (cy : Nat → ClassId) (v1 : Int32) (σ : zz_St) (Qp : Int32 → zz_St → Prop) (h : zq8_isUnder v1 σ Qp) : zz_Mi l yX8_isUnder wsX8_isUnder zrm8_isUnder D (tysM cy) (wM ad cy) [] [.ref (ad 0), .int v1] σ Qp :=
  zz_Mi.of zz_nw_nil (wM_ad ad cy) (by decide +kernel) rfl ⟨rfl, rfl⟩ (Nat.le_of_ble_eq_true rfl) (fun p e s m args below meth c A QW K hret => zu8_isUnder_0 K  hret h)
theorem zlk_X8_tile_1 : Cond.constantLong RX8 204 (2) ∈ wsX8_tile := List.mem_of_getElem? (i := 1) rfl
theorem zin_X8_tile_X8 : ∀ w ∈ wsX80, w ∈ wsX8_tile := fun w h => List.mem_cons_of_mem _ (List.mem_append_right _ h)
theorem zlk_X8_tile_2 : Cond.fieldLink RX8 29 "SolidsRolledModel" "tiles" "[I" ∈ wsX8_tile := List.mem_of_getElem? (i := 2) rfl
theorem zlk_X8_tile_3 : Cond.fieldLink RX8 38 "SolidsRolledModel" "isThere" "Z" ∈ wsX8_tile := List.mem_of_getElem? (i := 3) rfl
theorem zlk_X8_tile_4 : Cond.fieldLink RX8 133 "SolidsRolledModel" "kind" "I" ∈ wsX8_tile := List.mem_of_getElem? (i := 4) rfl
theorem zcb_m2 : (Int8.ofInt (-2)).toInt32 = (-2 : Int32) := by decide
theorem zcb_m3 : (Int8.ofInt (-3)).toInt32 = (-3 : Int32) := by decide
theorem zds_yX8_isUnder_v : yX8_isUnder.cls = RX8 ∧ yX8_isUnder.cls ≠ "java/lang/invoke/MethodHandle" ∧ yX8_isUnder.cls ≠ "java/lang/invoke/VarHandle" ∧ (parseMethodDescriptor yX8_isUnder.desc).map (fun d => d.parameters.length) = some 1 := by decide +kernel
abbrev zrm8_tile : Room := { frames := 4, cells := 0, slots := 0, locals := 89 }
set_option maxHeartbeats 4000000 in
set_option maxRecDepth 100000 in
theorem zu8_tile_95 {p : Program} {l : Launch} {e : Env} {s : State} {m : MethodId} {args : Array Value} {below : List Frame} {meth : Method} {c : Code} {Q : State → Prop} {D : va_G} {A : Nat → Prop} {ad : Nat → Nat} {cy : Nat → ClassId} {v1 : Int32} {v3 : Int32} {σ : zz_St} (K : zz_K p s m args c cX8_tile 4 RX8 wsX8_tile D (tysM cy) A (wM ad cy) []) {Qp : Int32 → zz_St → Prop} (hret : ∀ (r : Int32) (σ2 : zz_St), narrow .int (.int r) = .int r → Qp r σ2 → ∀ (pc : Nat) (lv : List (Nat × Value)), decode cX8_tile pc = .ok (.ireturn, 1) → zz_G p l e zrm8_tile s m args below meth c Q D A (wM ad cy) 4 pc lv [.int r] σ2) (h : zq8_tile_95 v1 v3 σ Qp) : zz_G p l e zrm8_tile s m args below meth c Q D A (wM ad cy) 4 95 [(0, .ref (ad 0)), (1, .int v1), (3, .int v3)] [] σ := by
  unfold zq8_tile_95 at h
  refine zz_aload_n K 0 dX8_tile_95 rfl rfl ?_
  refine zg8_4 K zin_X8_tile_X8 zlk_X8_tile_2 dX8_tile_96 ?_
  refine zz_iload_n K 1 dX8_tile_99 rfl rfl ?_
  refine zz_iload_n K 2 dX8_tile_100 rfl rfl ?_
  obtain ⟨hin, h⟩ := h
  refine zz_iastore K 0 (σ2 := zz_A σ 4 (upd ((σ).2.1 4) v1.toNatClampNeg v3)) (wM_at_4 ad cy σ) (wM_set_4 ad cy σ _) rfl hin dX8_tile_101 ?_
  refine zz_nms (fun g24 eg24 => ?_)
  have h := h g24 eg24
  refine zz_aload_n K 0 dX8_tile_102 rfl rfl ?_
  refine zz_bipush K dX8_tile_103 zcb_m3 ?_
  refine zz_callVi K zz_nw_nil [.int (-3 : Int32)] (zc8_no l D ad cy (-3 : Int32) g24 _ h) gX8_tile_X8_no rfl ⟨rfl, rfl⟩ zds_yX8_no_v ⟨Nat.le_of_ble_eq_true rfl, Nat.le_of_ble_eq_true rfl⟩ (wM_at_0 ad cy _) rfl rfl rfl rfl (Nat.le_of_ble_eq_true rfl) dX8_tile_105 (fun r25 g26 h => ?_)
  exact hret _ _ rfl h _ _ dX8_tile_108
set_option maxHeartbeats 4000000 in
set_option maxRecDepth 100000 in
theorem zu8_tile_0 {p : Program} {l : Launch} {e : Env} {s : State} {m : MethodId} {args : Array Value} {below : List Frame} {meth : Method} {c : Code} {Q : State → Prop} {D : va_G} {A : Nat → Prop} {ad : Nat → Nat} {cy : Nat → ClassId} {v1 : Int32} {v2 : Int32} {σ : zz_St} (K : zz_K p s m args c cX8_tile 4 RX8 wsX8_tile D (tysM cy) A (wM ad cy) []) {Qp : Int32 → zz_St → Prop} (hret : ∀ (r : Int32) (σ2 : zz_St), narrow .int (.int r) = .int r → Qp r σ2 → ∀ (pc : Nat) (lv : List (Nat × Value)), decode cX8_tile pc = .ok (.ireturn, 1) → zz_G p l e zrm8_tile s m args below meth c Q D A (wM ad cy) 4 pc lv [.int r] σ2) (h : zq8_tile v1 v2 σ Qp) : zz_G p l e zrm8_tile s m args below meth c Q D A (wM ad cy) 4 0 [(0, .ref (ad 0)), (1, .int v1), (2, .int v2)] [] σ := by
  unfold zq8_tile at h
  refine zz_aload_n K 0 dX8_tile_0 rfl rfl ?_
  refine zz_iload_n K 1 dX8_tile_1 rfl rfl ?_
  refine zz_callVi1 K zz_nw_nil [.int v1] (zc8_isTile l D ad cy v1 σ _ h) gX8_tile_X8_isTile rfl ⟨rfl, rfl⟩ zds_yX8_isTile_v ⟨Nat.le_of_ble_eq_true rfl, Nat.le_of_ble_eq_true rfl⟩ (wM_at_0 ad cy _) rfl rfl rfl rfl (Nat.le_of_ble_eq_true rfl) dX8_tile_2 (fun r27 h => ?_)
  refine zz_if_ne K 14 dX8_tile_5 rfl (fun c28 => ?_) (fun c28 => ?_)
  · have h := (And.left h) c28
    refine zz_iload_n K 2 dX8_tile_14 rfl rfl ?_
    refine zz_i2l K dX8_tile_15 ?_
    refine zz_lconst K (v := (0 : Int64)) dX8_tile_16 rfl ?_
    refine zz_ldc2 K zlk_X8_tile_1 dX8_tile_17 ?_
    refine zz_callSi1 K zz_nw_nil [.long (v2.toInt64), .long (0 : Int64), .long (2 : Int64)] (zc8_in l D ad cy (v2.toInt64) (0 : Int64) (2 : Int64) σ _ h) gX8_tile_X8_in rfl ⟨rfl, rfl⟩ zds_yX8_in_s ⟨Nat.le_of_ble_eq_true rfl, Nat.le_of_ble_eq_true rfl⟩ rfl rfl (Nat.le_of_ble_eq_true rfl) dX8_tile_20 (fun r29 h => ?_)
    refine zz_if_ne K 33 dX8_tile_23 rfl (fun c30 => ?_) (fun c30 => ?_)
    · have h := (And.left h) c30
      refine zz_aload_n K 0 dX8_tile_33 rfl rfl ?_
      refine zg8_4 K zin_X8_tile_X8 zlk_X8_tile_2 dX8_tile_34 ?_
      refine zz_iload_n K 1 dX8_tile_37 rfl rfl ?_
      obtain ⟨hin, h⟩ := h
      refine zz_iaload K 0 (wM_at_4 ad cy σ) rfl hin dX8_tile_38 ?_
      refine zz_nmi (fun x31 ex31 => ?_)
      have h := h x31 ex31
      refine zz_istore_n K [(3, .int x31), (0, .ref (ad 0)), (1, .int v1), (2, .int v2)] dX8_tile_39 rfl (by decide) rfl ?_
      refine zz_aload_n K 1 dX8_tile_40 rfl rfl ?_
      refine zg8_4 K zin_X8_tile_X8 zlk_X8_tile_2 dX8_tile_41 ?_
      refine zz_iload_n K 2 dX8_tile_44 rfl rfl ?_
      refine zz_iload_n K 3 dX8_tile_45 rfl rfl ?_
      obtain ⟨hin, h⟩ := h
      refine zz_iastore K 0 (σ2 := zz_A σ 4 (upd ((σ).2.1 4) v1.toNatClampNeg v2)) (wM_at_4 ad cy σ) (wM_set_4 ad cy σ _) rfl hin dX8_tile_46 ?_
      refine zz_nms (fun g32 eg32 => ?_)
      have h := h g32 eg32
      refine zz_aload_n K 1 dX8_tile_47 rfl rfl ?_
      refine zg8_9 K zin_X8_tile_X8 zlk_X8_tile_3 dX8_tile_48 ?_
      refine zz_if_eq K 109 dX8_tile_51 rfl (fun c33 => ?_) (fun c33 => ?_)
      · have h := (And.left h) c33
        refine zz_iload_n K 0 dX8_tile_109 rfl rfl ?_
        exact hret _ _ rfl h _ _ dX8_tile_110
      · have h := (And.right h) c33
        refine zz_aload_n K 1 dX8_tile_54 rfl rfl ?_
        refine zz_iload_n K 2 dX8_tile_55 rfl rfl ?_
        refine zz_callVi K zz_nw_nil [.int v1] (zc8_isUnder l D ad cy v1 g32 _ h) gX8_tile_X8_isUnder rfl ⟨rfl, rfl⟩ zds_yX8_isUnder_v ⟨Nat.le_of_ble_eq_true rfl, Nat.le_of_ble_eq_true rfl⟩ (wM_at_0 ad cy _) rfl rfl rfl rfl (Nat.le_of_ble_eq_true rfl) dX8_tile_56 (fun r34 g35 h => ?_)
        refine zz_if_eq K 109 dX8_tile_59 rfl (fun c36 => ?_) (fun c36 => ?_)
        · have h := (And.left h) c36
          refine zz_iload_n K 0 dX8_tile_109 rfl rfl ?_
          exact hret _ _ rfl h _ _ dX8_tile_110
        · have h := (And.right h) c36
          refine zz_iload_n K 3 dX8_tile_62 rfl rfl ?_
          refine zz_iconst K dX8_tile_63 zci_1 ?_
          refine zz_icmp_eq K 95 dX8_tile_64 rfl (fun c37 => ?_) (fun c37 => ?_)
          · have h := (And.left h) c37
            refine zz_sub [1, 2, 0] [(0, .ref (ad 0)), (1, .int v1), (3, .int x31)] rfl ?_
            exact zu8_tile_95 K hret h
          · have h := (And.right h) c37
            refine zz_iload_n K 3 dX8_tile_67 rfl rfl ?_
            refine zz_iconst K dX8_tile_68 zci_2 ?_
            refine zz_icmp_ne K 109 dX8_tile_69 rfl (fun c38 => ?_) (fun c38 => ?_)
            · have h := (And.left h) c38
              refine zz_iload_n K 0 dX8_tile_109 rfl rfl ?_
              exact hret _ _ rfl h _ _ dX8_tile_110
            · have h := (And.right h) c38
              refine zz_aload_n K 1 dX8_tile_72 rfl rfl ?_
              refine zg8_7 K zin_X8_tile_X8 zlk_X8_tile_4 dX8_tile_73 ?_
              refine zz_iconst K dX8_tile_76 zci_1 ?_
              refine zz_icmp_eq K 95 dX8_tile_77 rfl (fun c39 => ?_) (fun c39 => ?_)
              · have h := (And.left h) c39
                refine zz_sub [1, 2, 0] [(0, .ref (ad 0)), (1, .int v1), (3, .int x31)] rfl ?_
                exact zu8_tile_95 K hret h
              · have h := (And.right h) c39
                refine zz_aload_n K 1 dX8_tile_80 rfl rfl ?_
                refine zg8_7 K zin_X8_tile_X8 zlk_X8_tile_4 dX8_tile_81 ?_
                refine zz_iconst K dX8_tile_84 zci_3 ?_
                refine zz_icmp_ne K 109 dX8_tile_85 rfl (fun c40 => ?_) (fun c40 => ?_)
                · have h := (And.left h) c40
                  refine zz_iload_n K 0 dX8_tile_109 rfl rfl ?_
                  exact hret _ _ rfl h _ _ dX8_tile_110
                · have h := (And.right h) c40
                  refine zz_aload_n K 1 dX8_tile_88 rfl rfl ?_
                  refine zz_callVi1 K zz_nw_nil [] (zc8_lying l D ad cy  g35 _ h) gX8_tile_X8_lying rfl ⟨rfl, rfl⟩ zds_yX8_lying_v ⟨Nat.le_of_ble_eq_true rfl, Nat.le_of_ble_eq_true rfl⟩ (wM_at_0 ad cy _) rfl rfl rfl rfl (Nat.le_of_ble_eq_true rfl) dX8_tile_89 (fun r41 h => ?_)
                  refine zz_if_eq K 109 dX8_tile_92 rfl (fun c42 => ?_) (fun c42 => ?_)
                  · have h := (And.left h) c42
                    refine zz_iload_n K 0 dX8_tile_109 rfl rfl ?_
                    exact hret _ _ rfl h _ _ dX8_tile_110
                  · have h := (And.right h) c42
                    refine zz_sub [1, 2, 0] [(0, .ref (ad 0)), (1, .int v1), (3, .int x31)] rfl ?_
                    exact zu8_tile_95 K hret h
    · have h := (And.right h) c30
      refine zz_aload_n K 0 dX8_tile_26 rfl rfl ?_
      refine zz_bipush K dX8_tile_27 zcb_m2 ?_
      refine zz_callVi K zz_nw_nil [.int (-2 : Int32)] (zc8_no l D ad cy (-2 : Int32) σ _ h) gX8_tile_X8_no rfl ⟨rfl, rfl⟩ zds_yX8_no_v ⟨Nat.le_of_ble_eq_true rfl, Nat.le_of_ble_eq_true rfl⟩ (wM_at_0 ad cy _) rfl rfl rfl rfl (Nat.le_of_ble_eq_true rfl) dX8_tile_29 (fun r43 g44 h => ?_)
      exact hret _ _ rfl h _ _ dX8_tile_32
  · have h := (And.right h) c28
    refine zz_aload_n K 0 dX8_tile_8 rfl rfl ?_
    refine zz_iconst K dX8_tile_9 zci_m1 ?_
    refine zz_callVi K zz_nw_nil [.int (-1 : Int32)] (zc8_no l D ad cy (-1 : Int32) σ _ h) gX8_tile_X8_no rfl ⟨rfl, rfl⟩ zds_yX8_no_v ⟨Nat.le_of_ble_eq_true rfl, Nat.le_of_ble_eq_true rfl⟩ (wM_at_0 ad cy _) rfl rfl rfl rfl (Nat.le_of_ble_eq_true rfl) dX8_tile_10 (fun r45 g46 h => ?_)
    exact hret _ _ rfl h _ _ dX8_tile_13
set_option maxRecDepth 100000 in
theorem zc8_tile (l : Launch) (D : va_G) (ad : Nat → Nat) (cy : Nat → ClassId) (v1 : Int32) (v2 : Int32) (σ : zz_St) (Qp : Int32 → zz_St → Prop) (h : zq8_tile v1 v2 σ Qp) : zz_Mi l yX8_tile wsX8_tile zrm8_tile D (tysM cy) (wM ad cy) [] [.ref (ad 0), .int v1, .int v2] σ Qp :=
  zz_Mi.of zz_nw_nil (wM_ad ad cy) (by decide +kernel) rfl ⟨rfl, rfl⟩ (Nat.le_of_ble_eq_true rfl) (fun p e s m args below meth c A QW K hret => zu8_tile_0 K  hret h)
