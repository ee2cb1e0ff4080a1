theorem zin_X8_placesReached_X8 : ∀ w ∈ wsX80, w ∈ wsX8_placesReached := fun w h => List.mem_cons_of_mem _ (List.mem_append_right _ h)
theorem zlk_X8_placesReached_1 : Cond.fieldLink RX8 75 "SolidsRolledModel" "isPlaceReached" "[Z" ∈ wsX8_placesReached := List.mem_of_getElem? (i := 1) rfl
theorem zlk_X8_placesReached_2 : Cond.fieldLink RX8 251 "SolidsRolledModel" "many" "I" ∈ wsX8_placesReached := List.mem_of_getElem? (i := 2) rfl
theorem zlk_X8_placesReached_3 : Cond.fieldLink RX8 63 "SolidsRolledModel" "queuePlace" "[I" ∈ wsX8_placesReached := List.mem_of_getElem? (i := 3) rfl
abbrev zrm8_placesReached : Room := { frames := 0, cells := 0, slots := 0, locals := 0 }
set_option maxHeartbeats 4000000 in
set_option maxRecDepth 100000 in
theorem zu8_placesReached_50 {p : Program} {l : Launch} {e : Env} {s : State} {m : MethodId} {args : Array Value} {below : List Frame} {meth : Method} {c : Code} {Q : State → Prop} {D : va_G} {A : Nat → Prop} {ad : Nat → Nat} {cy : Nat → ClassId} {v1 : Int32} {v2 : Int32} {σ : zz_St} (K : zz_K p s m args c cX8_placesReached 3 RX8 wsX8_placesReached D (tysM cy) A (wM ad cy) []) {Qp : Int32 → zz_St → Prop} (hret : ∀ (r : Int32) (σ2 : zz_St), narrow .int (.int r) = .int r → Qp r σ2 → ∀ (pc : Nat) (lv : List (Nat × Value)), decode cX8_placesReached pc = .ok (.ireturn, 1) → zz_G p l e zrm8_placesReached s m args below meth c Q D A (wM ad cy) 3 pc lv [.int r] σ2) {B25 : Int32 → Int32 → zz_St → Prop} (hB25 : ∀ (v1' : Int32) (v2' : Int32) (σ' : zz_St), B25 v1' v2' σ' → zz_G p l e zrm8_placesReached s m args below meth c Q D A (wM ad cy) 3 25 [(0, .ref (ad 0)), (1, .int v1'), (2, .int v2')] [] σ') (h : zq8_placesReached_50 v1 v2 σ Qp B25) : zz_G p l e zrm8_placesReached s m args below meth c Q D A (wM ad cy) 3 50 [(0, .ref (ad 0)), (1, .int v1), (2, .int v2)] [] σ := by
  unfold zq8_placesReached_50 at h
  refine zz_aload_n K 0 dX8_placesReached_50 rfl rfl ?_
  refine zg8_29 K zin_X8_placesReached_X8 zlk_X8_placesReached_1 dX8_placesReached_51 ?_
  refine zz_aload_n K 0 dX8_placesReached_54 rfl rfl ?_
  refine zg8_23 K zin_X8_placesReached_X8 zlk_X8_placesReached_3 dX8_placesReached_55 ?_
  refine zz_iload_n K 2 dX8_placesReached_58 rfl rfl ?_
  obtain ⟨hin, h⟩ := h
  refine zz_iaload K 0 (wM_at_23 ad cy σ) rfl hin dX8_placesReached_59 ?_
  refine zz_iconst K dX8_placesReached_60 zci_1 ?_
  obtain ⟨hin, h⟩ := h
  refine zz_bastore K 2 (σ2 := zz_A σ 29 (upd ((σ).2.1 29) ((σ).2.1 23 v2.toNatClampNeg).toNatClampNeg (vp_nar .boolean (1 : Int32)))) (wM_at_29 ad cy σ) (wM_set_29 ad cy σ _) rfl hin dX8_placesReached_61 ?_
  refine zz_nms (fun g6 eg6 => ?_)
  have h := h g6 eg6
  refine zz_iinc K 2 [(2, .int (v2 + (1 : Int32))), (0, .ref (ad 0)), (1, .int v1)] dX8_placesReached_62 zci_1 rfl (by decide) rfl ?_
  refine zz_goto K 25 dX8_placesReached_65 rfl ?_
  refine zz_sub [1, 2, 0] [(0, .ref (ad 0)), (1, .int v1), (2, .int (v2 + (1 : Int32)))] rfl ?_
  exact hB25 v1 (v2 + (1 : Int32)) g6 h
set_option maxHeartbeats 4000000 in
set_option maxRecDepth 100000 in
theorem zu8_placesReached_25 {p : Program} {l : Launch} {e : Env} {s : State} {m : MethodId} {args : Array Value} {below : List Frame} {meth : Method} {c : Code} {Q : State → Prop} {D : va_G} {A : Nat → Prop} {ad : Nat → Nat} {cy : Nat → ClassId} {v1 : Int32} {v2 : Int32} {σ : zz_St} (K : zz_K p s m args c cX8_placesReached 3 RX8 wsX8_placesReached D (tysM cy) A (wM ad cy) []) {Qp : Int32 → zz_St → Prop} (hret : ∀ (r : Int32) (σ2 : zz_St), narrow .int (.int r) = .int r → Qp r σ2 → ∀ (pc : Nat) (lv : List (Nat × Value)), decode cX8_placesReached pc = .ok (.ireturn, 1) → zz_G p l e zrm8_placesReached s m args below meth c Q D A (wM ad cy) 3 pc lv [.int r] σ2) (h : zq8_placesReached_25 v1 v2 σ Qp) : zz_G p l e zrm8_placesReached s m args below meth c Q D A (wM ad cy) 3 25 [(0, .ref (ad 0)), (1, .int v1), (2, .int v2)] [] σ := by
  unfold zq8_placesReached_25 at h
  obtain ⟨I25, M25, h0, hs⟩ := h
  have key : ∀ (n : Nat) (v1 : Int32) (v2 : Int32) (σ : zz_St), M25 v1 v2 σ < n → I25 v1 v2 σ → zz_G p l e zrm8_placesReached s m args below meth c Q D A (wM ad cy) 3 25 [(0, .ref (ad 0)), (1, .int v1), (2, .int v2)] [] σ := by
    intro n
    induction n with
    | zero => intro v1 v2 σ hlt; exact absurd hlt (Nat.not_lt_zero _)
    | succ n ih =>
      intro v1 v2 σ hlt hI
      have h := hs v1 v2 σ hI
      have hB25 : ∀ (v1' : Int32) (v2' : Int32) (σ' : zz_St), (fun v1' v2' σ' => I25 v1' v2' σ' ∧ M25 v1' v2' σ' < M25 v1 v2 σ) v1' v2' σ' → zz_G p l e zrm8_placesReached s m args below meth c Q D A (wM ad cy) 3 25 [(0, .ref (ad 0)), (1, .int v1'), (2, .int v2')] [] σ' := fun v1' v2' σ' hz => ih v1' v2' σ' (Nat.lt_of_lt_of_le hz.2 (Nat.le_of_lt_succ hlt)) hz.1
      refine zz_iload_n K 2 dX8_placesReached_25 rfl rfl ?_
      refine zz_aload_n K 0 dX8_placesReached_26 rfl rfl ?_
      refine zg8_27 K zin_X8_placesReached_X8 zlk_X8_placesReached_2 dX8_placesReached_27 ?_
      refine zz_icmp_ge K 68 dX8_placesReached_30 rfl (fun c7 => ?_) (fun c7 => ?_)
      · have h := (And.left h) c7
        refine zz_iload_n K 1 dX8_placesReached_68 rfl rfl ?_
        exact hret _ _ rfl h _ _ dX8_placesReached_69
      · have h := (And.right h) c7
        refine zz_aload_n K 0 dX8_placesReached_33 rfl rfl ?_
        refine zg8_29 K zin_X8_placesReached_X8 zlk_X8_placesReached_1 dX8_placesReached_34 ?_
        refine zz_aload_n K 0 dX8_placesReached_37 rfl rfl ?_
        refine zg8_23 K zin_X8_placesReached_X8 zlk_X8_placesReached_3 dX8_placesReached_38 ?_
        refine zz_iload_n K 2 dX8_placesReached_41 rfl rfl ?_
        obtain ⟨hin, h⟩ := h
        refine zz_iaload K 0 (wM_at_23 ad cy σ) rfl hin dX8_placesReached_42 ?_
        obtain ⟨hin, h⟩ := h
        refine zz_baload K 2 (wM_at_29 ad cy σ) rfl hin dX8_placesReached_43 ?_
        refine zz_if_ne K 50 dX8_placesReached_44 rfl (fun c8 => ?_) (fun c8 => ?_)
        · have h := (And.left h) c8
          exact zu8_placesReached_50 K hret hB25 h
        · have h := (And.right h) c8
          refine zz_iinc K 1 [(1, .int (v1 + (1 : Int32))), (0, .ref (ad 0)), (2, .int v2)] dX8_placesReached_47 zci_1 rfl (by decide) rfl ?_
          refine zz_sub [1, 0, 2] [(0, .ref (ad 0)), (1, .int (v1 + (1 : Int32))), (2, .int v2)] rfl ?_
          exact zu8_placesReached_50 K hret hB25 h
  exact key _ v1 v2 σ (Nat.lt_succ_self _) h0
set_option maxHeartbeats 4000000 in
set_option maxRecDepth 100000 in
theorem zu8_placesReached_2 {p : Program} {l : Launch} {e : Env} {s : State} {m : MethodId} {args : Array Value} {below : List Frame} {meth : Method} {c : Code} {Q : State → Prop} {D : va_G} {A : Nat → Prop} {ad : Nat → Nat} {cy : Nat → ClassId} {v1 : Int32} {σ : zz_St} (K : zz_K p s m args c cX8_placesReached 3 RX8 wsX8_placesReached D (tysM cy) A (wM ad cy) []) {Qp : Int32 → zz_St → Prop} (hret : ∀ (r : Int32) (σ2 : zz_St), narrow .int (.int r) = .int r → Qp r σ2 → ∀ (pc : Nat) (lv : List (Nat × Value)), decode cX8_placesReached pc = .ok (.ireturn, 1) → zz_G p l e zrm8_placesReached s m args below meth c Q D A (wM ad cy) 3 pc lv [.int r] σ2) (h : zq8_placesReached_2 v1 σ Qp) : zz_G p l e zrm8_placesReached s m args below meth c Q D A (wM ad cy) 3 2 [(0, .ref (ad 0)), (1, .int v1)] [] σ := by
  unfold zq8_placesReached_2 at h
  obtain ⟨I2, M2, h0, hs⟩ := h
  have key : ∀ (n : Nat) (v1 : Int32) (σ : zz_St), M2 v1 σ < n → I2 v1 σ → zz_G p l e zrm8_placesReached s m args below meth c Q D A (wM ad cy) 3 2 [(0, .ref (ad 0)), (1, .int v1)] [] σ := by
    intro n
    induction n with
    | zero => intro v1 σ hlt; exact absurd hlt (Nat.not_lt_zero _)
    | succ n ih =>
      intro v1 σ hlt hI
      have h := hs v1 σ hI
      have hB2 : ∀ (v1' : Int32) (σ' : zz_St), (fun v1' σ' => I2 v1' σ' ∧ M2 v1' σ' < M2 v1 σ) v1' σ' → zz_G p l e zrm8_placesReached s m args below meth c Q D A (wM ad cy) 3 2 [(0, .ref (ad 0)), (1, .int v1')] [] σ' := fun v1' σ' hz => ih v1' σ' (Nat.lt_of_lt_of_le hz.2 (Nat.le_of_lt_succ hlt)) hz.1
      refine zz_iload_n K 1 dX8_placesReached_2 rfl rfl ?_
      refine zz_bipush K dX8_placesReached_3 zcb_72 ?_
      refine zz_icmp_ge K 21 dX8_placesReached_5 rfl (fun c9 => ?_) (fun c9 => ?_)
      · have h := (And.left h) c9
        refine zz_iconst K dX8_placesReached_21 zci_0 ?_
        refine zz_istore_n K [(1, .int (0 : Int32)), (0, .ref (ad 0))] dX8_placesReached_22 rfl (by decide) rfl ?_
        refine zz_iconst K dX8_placesReached_23 zci_0 ?_
        refine zz_istore_n K [(2, .int (0 : Int32)), (1, .int (0 : Int32)), (0, .ref (ad 0))] dX8_placesReached_24 rfl (by decide) rfl ?_
        refine zz_sub [2, 1, 0] [(0, .ref (ad 0)), (1, .int (0 : Int32)), (2, .int (0 : Int32))] rfl ?_
        exact zu8_placesReached_25 K hret h
      · have h := (And.right h) c9
        refine zz_aload_n K 0 dX8_placesReached_8 rfl rfl ?_
        refine zg8_29 K zin_X8_placesReached_X8 zlk_X8_placesReached_1 dX8_placesReached_9 ?_
        refine zz_iload_n K 1 dX8_placesReached_12 rfl rfl ?_
        refine zz_iconst K dX8_placesReached_13 zci_0 ?_
        obtain ⟨hin, h⟩ := h
        refine zz_bastore K 2 (σ2 := zz_A σ 29 (upd ((σ).2.1 29) v1.toNatClampNeg (vp_nar .boolean (0 : Int32)))) (wM_at_29 ad cy σ) (wM_set_29 ad cy σ _) rfl hin dX8_placesReached_14 ?_
        refine zz_nms (fun g10 eg10 => ?_)
        have h := h g10 eg10
        refine zz_iinc K 1 [(1, .int (v1 + (1 : Int32))), (0, .ref (ad 0))] dX8_placesReached_15 zci_1 rfl (by decide) rfl ?_
        refine zz_goto K 2 dX8_placesReached_18 rfl ?_
        refine zz_sub [1, 0] [(0, .ref (ad 0)), (1, .int (v1 + (1 : Int32)))] rfl ?_
        exact hB2 (v1 + (1 : Int32)) g10 h
  exact key _ v1 σ (Nat.lt_succ_self _) h0
set_option maxHeartbeats 4000000 in
set_option maxRecDepth 100000 in
theorem zu8_placesReached_0 {p : Program} {l : Launch} {e : Env} {s : State} {m : MethodId} {args : Array Value} {below : List Frame} {meth : Method} {c : Code} {Q : State → Prop} {D : va_G} {A : Nat → Prop} {ad : Nat → Nat} {cy : Nat → ClassId}  {σ : zz_St} (K : zz_K p s m args c cX8_placesReached 3 RX8 wsX8_placesReached D (tysM cy) A (wM ad cy) []) {Qp : Int32 → zz_St → Prop} (hret : ∀ (r : Int32) (σ2 : zz_St), narrow .int (.int r) = .int r → Qp r σ2 → ∀ (pc : Nat) (lv : List (Nat × Value)), decode cX8_placesReached pc = .ok (.ireturn, 1) → zz_G p l e zrm8_placesReached s m args below meth c Q D A (wM ad cy) 3 pc lv [.int r] σ2) (h : zq8_placesReached σ Qp) : zz_G p l e zrm8_placesReached s m args below meth c Q D A (wM ad cy) 3 0 [(0, .ref (ad 0))] [] σ := by
  unfold zq8_placesReached at h
  refine zz_iconst K dX8_placesReached_0 zci_0 ?_
  refine zz_istore_n K [(1, .int (0 : Int32)), (0, .ref (ad 0))] dX8_placesReached_1 rfl (by decide) rfl ?_
  refine zz_sub [1, 0] [(0, .ref (ad 0)), (1, .int (0 : Int32))] rfl ?_
  exact zu8_placesReached_2 K hret h
set_option maxRecDepth 100000 in
theorem zc8_placesReached (l : Launch) (D : va_G) (ad : Nat → Nat) (cy : Nat → ClassId)  (σ : zz_St) (Qp : Int32 → zz_St → Prop) (h : zq8_placesReached σ Qp) : zz_Mi l yX8_placesReached wsX8_placesReached zrm8_placesReached D (tysM cy) (wM ad cy) [] [.ref (ad 0)] σ Qp :=
  zz_Mi.of zz_nw_nil (wM_ad ad cy) (by decide +kernel) rfl ⟨rfl, rfl⟩ (Nat.le_of_ble_eq_true rfl) (fun p e s m args below meth c A QW K hret => zu8_placesReached_0 K  hret h)
theorem zin_X8_isEven_X8 : ∀ w ∈ wsX80, w ∈ wsX8_isEven := fun w h => List.mem_cons_of_mem _ (List.mem_append_right _ h)
theorem zlk_X8_isEven_1 : Cond.fieldLink RX8 251 "SolidsRolledModel" "many" "I" ∈ wsX8_isEven := List.mem_of_getElem? (i := 1) rfl
theorem zlk_X8_isEven_2 : Cond.fieldLink RX8 79 "SolidsRolledModel" "parity" "[I" ∈ wsX8_isEven := List.mem_of_getElem? (i := 2) rfl
theorem zlk_X8_isEven_3 : Cond.fieldLink RX8 72 "SolidsRolledModel" "next" "[I" ∈ wsX8_isEven := List.mem_of_getElem? (i := 3) rfl
abbrev zrm8_isEven : Room := { frames := 0, cells := 0, slots := 0, locals := 0 }
set_option maxHeartbeats 4000000 in
set_option maxRecDepth 100000 in
theorem zu8_isEven_24 {p : Program} {l : Launch} {e : Env} {s : State} {m : MethodId} {args : Array Value} {below : List Frame} {meth : Method} {c : Code} {Q : State → Prop} {D : va_G} {A : Nat → Prop} {ad : Nat → Nat} {cy : Nat → ClassId} {v1 : Int32} {s0 : Int32} {s1 : Int32} {σ : zz_St} (K : zz_K p s m args c cX8_isEven 6 RX8 wsX8_isEven D (tysM cy) A (wM ad cy) []) {Qp : Int32 → zz_St → Prop} (hret : ∀ (r : Int32) (σ2 : zz_St), narrow .boolean (.int r) = .int r → Qp r σ2 → ∀ (pc : Nat) (lv : List (Nat × Value)), decode cX8_isEven pc = .ok (.ireturn, 1) → zz_G p l e zrm8_isEven s m args below meth c Q D A (wM ad cy) 6 pc lv [.int r] σ2) {B2 : Int32 → zz_St → Prop} (hB2 : ∀ (v1' : Int32) (σ' : zz_St), B2 v1' σ' → zz_G p l e zrm8_isEven s m args below meth c Q D A (wM ad cy) 6 2 [(0, .ref (ad 0)), (1, .int v1')] [] σ') (h : zq8_isEven_24 v1 s0 s1 σ Qp B2) : zz_G p l e zrm8_isEven s m args below meth c Q D A (wM ad cy) 6 24 [(0, .ref (ad 0)), (1, .int v1)] [.int s0, .int s1, .ref (ad 30)] σ := by
  unfold zq8_isEven_24 at h
  obtain ⟨hin, h⟩ := h
  refine zz_iastore K 0 (σ2 := zz_A σ 30 (upd ((σ).2.1 30) s1.toNatClampNeg s0)) (wM_at_30 ad cy σ) (wM_set_30 ad cy σ _) rfl hin dX8_isEven_24 ?_
  refine zz_nms (fun g14 eg14 => ?_)
  have h := h g14 eg14
  refine zz_iinc K 1 [(1, .int (v1 + (1 : Int32))), (0, .ref (ad 0))] dX8_isEven_25 zci_1 rfl (by decide) rfl ?_
  refine zz_goto K 2 dX8_isEven_28 rfl ?_
  refine zz_sub [1, 0] [(0, .ref (ad 0)), (1, .int (v1 + (1 : Int32)))] rfl ?_
  exact hB2 (v1 + (1 : Int32)) g14 h
set_option maxHeartbeats 4000000 in
set_option maxRecDepth 100000 in
theorem zu8_isEven_128 {p : Program} {l : Launch} {e : Env} {s : State} {m : MethodId} {args : Array Value} {below : List Frame} {meth : Method} {c : Code} {Q : State → Prop} {D : va_G} {A : Nat → Prop} {ad : Nat → Nat} {cy : Nat → ClassId} {v1 : Int32} {v2 : Int32} {v3 : Int32} {v4 : Int32} {σ : zz_St} (K : zz_K p s m args c cX8_isEven 6 RX8 wsX8_isEven D (tysM cy) A (wM ad cy) []) {Qp : Int32 → zz_St → Prop} (hret : ∀ (r : Int32) (σ2 : zz_St), narrow .boolean (.int r) = .int r → Qp r σ2 → ∀ (pc : Nat) (lv : List (Nat × Value)), decode cX8_isEven pc = .ok (.ireturn, 1) → zz_G p l e zrm8_isEven s m args below meth c Q D A (wM ad cy) 6 pc lv [.int r] σ2) {B33 : Int32 → zz_St → Prop} (hB33 : ∀ (v1' : Int32) (σ' : zz_St), B33 v1' σ' → zz_G p l e zrm8_isEven s m args below meth c Q D A (wM ad cy) 6 33 [(0, .ref (ad 0)), (1, .int v1')] [] σ') {B41 : Int32 → Int32 → zz_St → Prop} (hB41 : ∀ (v1' : Int32) (v2' : Int32) (σ' : zz_St), B41 v1' v2' σ' → zz_G p l e zrm8_isEven s m args below meth c Q D A (wM ad cy) 6 41 [(0, .ref (ad 0)), (1, .int v1'), (2, .int v2')] [] σ') {B72 : Int32 → Int32 → zz_St → Prop} (hB72 : ∀ (v1' : Int32) (v4' : Int32) (σ' : zz_St), B72 v1' v4' σ' → zz_G p l e zrm8_isEven s m args below meth c Q D A (wM ad cy) 6 72 [(0, .ref (ad 0)), (1, .int v1'), (2, .int v2), (3, .int v3), (4, .int v4')] [] σ') (h : zq8_isEven_128 v1 v2 v3 v4 σ Qp B33 B41 B72) : zz_G p l e zrm8_isEven s m args below meth c Q D A (wM ad cy) 6 128 [(0, .ref (ad 0)), (1, .int v1), (2, .int v2), (3, .int v3), (4, .int v4)] [] σ := by
  unfold zq8_isEven_128 at h
  refine zz_iinc K 4 [(4, .int (v4 + (1 : Int32))), (0, .ref (ad 0)), (1, .int v1), (2, .int v2), (3, .int v3)] dX8_isEven_128 zci_1 rfl (by decide) rfl ?_
  refine zz_goto K 72 dX8_isEven_131 rfl ?_
  refine zz_sub [1, 2, 3, 4, 0] [(0, .ref (ad 0)), (1, .int v1), (2, .int v2), (3, .int v3), (4, .int (v4 + (1 : Int32)))] rfl ?_
  exact hB72 v1 (v4 + (1 : Int32)) σ h
set_option maxHeartbeats 4000000 in
set_option maxRecDepth 100000 in
theorem zu8_isEven_72 {p : Program} {l : Launch} {e : Env} {s : State} {m : MethodId} {args : Array Value} {below : List Frame} {meth : Method} {c : Code} {Q : State → Prop} {D : va_G} {A : Nat → Prop} {ad : Nat → Nat} {cy : Nat → ClassId} {v1 : Int32} {v2 : Int32} {v3 : Int32} {v4 : Int32} {σ : zz_St} (K : zz_K p s m args c cX8_isEven 6 RX8 wsX8_isEven D (tysM cy) A (wM ad cy) []) {Qp : Int32 → zz_St → Prop} (hret : ∀ (r : Int32) (σ2 : zz_St), narrow .boolean (.int r) = .int r → Qp r σ2 → ∀ (pc : Nat) (lv : List (Nat × Value)), decode cX8_isEven pc = .ok (.ireturn, 1) → zz_G p l e zrm8_isEven s m args below meth c Q D A (wM ad cy) 6 pc lv [.int r] σ2) {B33 : Int32 → zz_St → Prop} (hB33 : ∀ (v1' : Int32) (σ' : zz_St), B33 v1' σ' → zz_G p l e zrm8_isEven s m args below meth c Q D A (wM ad cy) 6 33 [(0, .ref (ad 0)), (1, .int v1')] [] σ') {B41 : Int32 → Int32 → zz_St → Prop} (hB41 : ∀ (v1' : Int32) (v2' : Int32) (σ' : zz_St), B41 v1' v2' σ' → zz_G p l e zrm8_isEven s m args below meth c Q D A (wM ad cy) 6 41 [(0, .ref (ad 0)), (1, .int v1'), (2, .int v2')] [] σ') (h : zq8_isEven_72 v1 v2 v3 v4 σ Qp B33 B41) : zz_G p l e zrm8_isEven s m args below meth c Q D A (wM ad cy) 6 72 [(0, .ref (ad 0)), (1, .int v1), (2, .int v2), (3, .int v3), (4, .int v4)] [] σ := by
  unfold zq8_isEven_72 at h
  obtain ⟨I72, M72, h0, hs⟩ := h
  have key : ∀ (n : Nat) (v1 : Int32) (v4 : Int32) (σ : zz_St), M72 v1 v4 σ < n → I72 v1 v4 σ → zz_G p l e zrm8_isEven s m args below meth c Q D A (wM ad cy) 6 72 [(0, .ref (ad 0)), (1, .int v1), (2, .int v2), (3, .int v3), (4, .int v4)] [] σ := by
    intro n
    induction n with
    | zero => intro v1 v4 σ hlt; exact absurd hlt (Nat.not_lt_zero _)
    | succ n ih =>
      intro v1 v4 σ hlt hI
      have h := hs v1 v4 σ hI
      have hB72 : ∀ (v1' : Int32) (v4' : Int32) (σ' : zz_St), (fun v1' v4' σ' => I72 v1' v4' σ' ∧ M72 v1' v4' σ' < M72 v1 v4 σ) v1' v4' σ' → zz_G p l e zrm8_isEven s m args below meth c Q D A (wM ad cy) 6 72 [(0, .ref (ad 0)), (1, .int v1'), (2, .int v2), (3, .int v3), (4, .int v4')] [] σ' := fun v1' v4' σ' hz => ih v1' v4' σ' (Nat.lt_of_lt_of_le hz.2 (Nat.le_of_lt_succ hlt)) hz.1
      refine zz_iload K 4 dX8_isEven_72 rfl ?_
      refine zz_iconst K dX8_isEven_74 zci_4 ?_
      refine zz_icmp_ge K 134 dX8_isEven_75 rfl (fun c15 => ?_) (fun c15 => ?_)
      · have h := (And.left h) c15
        refine zz_iinc K 2 [(2, .int (v2 + (1 : Int32))), (0, .ref (ad 0)), (1, .int v1), (3, .int v3), (4, .int v4)] dX8_isEven_134 zci_1 rfl (by decide) rfl ?_
        refine zz_goto K 41 dX8_isEven_137 rfl ?_
        refine zz_sub [1, 2, 0] [(0, .ref (ad 0)), (1, .int v1), (2, .int (v2 + (1 : Int32)))] rfl ?_
        exact hB41 v1 (v2 + (1 : Int32)) σ h
      · have h := (And.right h) c15
        refine zz_aload_n K 0 dX8_isEven_78 rfl rfl ?_
        refine zg8_26 K zin_X8_isEven_X8 zlk_X8_isEven_3 dX8_isEven_79 ?_
        refine zz_iconst K dX8_isEven_82 zci_4 ?_
        refine zz_iload_n K 2 dX8_isEven_83 rfl rfl ?_
        refine zz_imul K dX8_isEven_84 ?_
        refine zz_iload K 4 dX8_isEven_85 rfl ?_
        refine zz_iadd K dX8_isEven_87 ?_
        obtain ⟨hin, h⟩ := h
        refine zz_iaload K 0 (wM_at_26 ad cy σ) rfl hin dX8_isEven_88 ?_
        refine zz_nmi (fun x16 ex16 => ?_)
        have h := h x16 ex16
        refine zz_istore K [(5, .int x16), (0, .ref (ad 0)), (1, .int v1), (2, .int v2), (3, .int v3), (4, .int v4)] dX8_isEven_89 (by decide) rfl ?_
        refine zz_iload K 0 dX8_isEven_91 rfl ?_
        refine zz_if_lt K 128 dX8_isEven_93 rfl (fun c17 => ?_) (fun c17 => ?_)
        · have h := (And.left h) c17
          refine zz_sub [1, 2, 3, 4, 5] [(0, .ref (ad 0)), (1, .int v1), (2, .int v2), (3, .int v3), (4, .int v4)] rfl ?_
          exact zu8_isEven_128 K hret hB33 hB41 hB72 h
        · have h := (And.right h) c17
          refine zz_aload_n K 1 dX8_isEven_96 rfl rfl ?_
          refine zg8_30 K zin_X8_isEven_X8 zlk_X8_isEven_2 dX8_isEven_97 ?_
          refine zz_iload K 0 dX8_isEven_100 rfl ?_
          obtain ⟨hin, h⟩ := h
          refine zz_iaload K 0 (wM_at_30 ad cy σ) rfl hin dX8_isEven_102 ?_
          refine zz_iload_n K 4 dX8_isEven_103 rfl rfl ?_
          refine zz_ior K dX8_isEven_104 ?_
          refine zz_aload_n K 1 dX8_isEven_105 rfl rfl ?_
          refine zg8_30 K zin_X8_isEven_X8 zlk_X8_isEven_2 dX8_isEven_106 ?_
          refine zz_iload K 0 dX8_isEven_109 rfl ?_
          obtain ⟨hin, h⟩ := h
          refine zz_iaload K 0 (wM_at_30 ad cy σ) rfl hin dX8_isEven_111 ?_
          refine zz_icmp_eq K 128 dX8_isEven_112 rfl (fun c18 => ?_) (fun c18 => ?_)
          · have h := (And.left h) c18
            refine zz_sub [1, 2, 3, 4, 5] [(0, .ref (ad 0)), (1, .int v1), (2, .int v2), (3, .int v3), (4, .int v4)] rfl ?_
            exact zu8_isEven_128 K hret hB33 hB41 hB72 h
          · have h := (And.right h) c18
            refine zz_aload_n K 1 dX8_isEven_115 rfl rfl ?_
            refine zg8_30 K zin_X8_isEven_X8 zlk_X8_isEven_2 dX8_isEven_116 ?_
            refine zz_iload K 0 dX8_isEven_119 rfl ?_
            refine zz_dup2 K rfl rfl dX8_isEven_121 ?_
            obtain ⟨hin, h⟩ := h
            refine zz_iaload K 0 (wM_at_30 ad cy σ) rfl hin dX8_isEven_122 ?_
            refine zz_iload_n K 4 dX8_isEven_123 rfl rfl ?_
            refine zz_ior K dX8_isEven_124 ?_
            obtain ⟨hin, h⟩ := h
            refine zz_iastore K 0 (σ2 := zz_A σ 30 (upd ((σ).2.1 30) x16.toNatClampNeg (((σ).2.1 30 x16.toNatClampNeg) ||| v3))) (wM_at_30 ad cy σ) (wM_set_30 ad cy σ _) rfl hin dX8_isEven_125 ?_
            refine zz_nms (fun g19 eg19 => ?_)
            have h := h g19 eg19
            refine zz_iconst K dX8_isEven_126 zci_1 ?_
            refine zz_istore_n K [(1, .int (1 : Int32)), (5, .int x16), (0, .ref (ad 0)), (2, .int v2), (3, .int v3), (4, .int v4)] dX8_isEven_127 rfl (by decide) rfl ?_
            refine zz_sub [2, 0, 3, 4, 5] [(0, .ref (ad 0)), (1, .int (1 : Int32)), (2, .int v2), (3, .int v3), (4, .int v4)] rfl ?_
            exact zu8_isEven_128 K hret hB33 hB41 hB72 h
  exact key _ v1 v4 σ (Nat.lt_succ_self _) h0
set_option maxHeartbeats 4000000 in
set_option maxRecDepth 100000 in
theorem zu8_isEven_41 {p : Program} {l : Launch} {e : Env} {s : State} {m : MethodId} {args : Array Value} {below : List Frame} {meth : Method} {c : Code} {Q : State → Prop} {D : va_G} {A : Nat → Prop} {ad : Nat → Nat} {cy : Nat → ClassId} {v1 : Int32} {v2 : Int32} {σ : zz_St} (K : zz_K p s m args c cX8_isEven 6 RX8 wsX8_isEven D (tysM cy) A (wM ad cy) []) {Qp : Int32 → zz_St → Prop} (hret : ∀ (r : Int32) (σ2 : zz_St), narrow .boolean (.int r) = .int r → Qp r σ2 → ∀ (pc : Nat) (lv : List (Nat × Value)), decode cX8_isEven pc = .ok (.ireturn, 1) → zz_G p l e zrm8_isEven s m args below meth c Q D A (wM ad cy) 6 pc lv [.int r] σ2) {B33 : Int32 → zz_St → Prop} (hB33 : ∀ (v1' : Int32) (σ' : zz_St), B33 v1' σ' → zz_G p l e zrm8_isEven s m args below meth c Q D A (wM ad cy) 6 33 [(0, .ref (ad 0)), (1, .int v1')] [] σ') (h : zq8_isEven_41 v1 v2 σ Qp B33) : zz_G p l e zrm8_isEven s m args below meth c Q D A (wM ad cy) 6 41 [(0, .ref (ad 0)), (1, .int v1), (2, .int v2)] [] σ := by
  unfold zq8_isEven_41 at h
  obtain ⟨I41, M41, h0, hs⟩ := h
  have key : ∀ (n : Nat) (v1 : Int32) (v2 : Int32) (σ : zz_St), M41 v1 v2 σ < n → I41 v1 v2 σ → zz_G p l e zrm8_isEven s m args below meth c Q D A (wM ad cy) 6 41 [(0, .ref (ad 0)), (1, .int v1), (2, .int v2)] [] σ := by
    intro n
    induction n with
    | zero => intro v1 v2 σ hlt; exact absurd hlt (Nat.not_lt_zero _)
    | succ n ih =>
      intro v1 v2 σ hlt hI
      have h := hs v1 v2 σ hI
      have hB41 : ∀ (v1' : Int32) (v2' : Int32) (σ' : zz_St), (fun v1' v2' σ' => I41 v1' v2' σ' ∧ M41 v1' v2' σ' < M41 v1 v2 σ) v1' v2' σ' → zz_G p l e zrm8_isEven s m args below meth c Q D A (wM ad cy) 6 41 [(0, .ref (ad 0)), (1, .int v1'), (2, .int v2')] [] σ' := fun v1' v2' σ' hz => ih v1' v2' σ' (Nat.lt_of_lt_of_le hz.2 (Nat.le_of_lt_succ hlt)) hz.1
      refine zz_iload_n K 2 dX8_isEven_41 rfl rfl ?_
      refine zz_aload_n K 0 dX8_isEven_42 rfl rfl ?_
      refine zg8_27 K zin_X8_isEven_X8 zlk_X8_isEven_1 dX8_isEven_43 ?_
      refine zz_icmp_ge K 140 dX8_isEven_46 rfl (fun c20 => ?_) (fun c20 => ?_)
      · have h := (And.left h) c20
        refine zz_goto K 33 dX8_isEven_140 rfl ?_
        refine zz_sub [0, 1] [(0, .ref (ad 0)), (1, .int v1)] rfl ?_
        exact hB33 v1 σ h
      · have h := (And.right h) c20
        refine zz_aload_n K 0 dX8_isEven_49 rfl rfl ?_
        refine zg8_30 K zin_X8_isEven_X8 zlk_X8_isEven_2 dX8_isEven_50 ?_
        refine zz_iload_n K 2 dX8_isEven_53 rfl rfl ?_
        obtain ⟨hin, h⟩ := h
        refine zz_iaload K 0 (wM_at_30 ad cy σ) rfl hin dX8_isEven_54 ?_
        refine zz_iconst K dX8_isEven_55 zci_1 ?_
        refine zz_iand K dX8_isEven_56 ?_
        refine zz_iconst K dX8_isEven_57 zci_1 ?_
        refine zz_ishl K dX8_isEven_58 ?_
        refine zz_aload_n K 0 dX8_isEven_59 rfl rfl ?_
        refine zg8_30 K zin_X8_isEven_X8 zlk_X8_isEven_2 dX8_isEven_60 ?_
        refine zz_iload_n K 2 dX8_isEven_63 rfl rfl ?_
        obtain ⟨hin, h⟩ := h
        refine zz_iaload K 0 (wM_at_30 ad cy σ) rfl hin dX8_isEven_64 ?_
        refine zz_iconst K dX8_isEven_65 zci_1 ?_
        refine zz_ishr K dX8_isEven_66 ?_
        refine zz_ior K dX8_isEven_67 ?_
        refine zz_nmi (fun x21 ex21 => ?_)
        have h := h x21 ex21
        refine zz_istore_n K [(3, .int x21), (0, .ref (ad 0)), (1, .int v1), (2, .int v2)] dX8_isEven_68 rfl (by decide) rfl ?_
        refine zz_iconst K dX8_isEven_69 zci_0 ?_
        refine zz_istore K [(4, .int (0 : Int32)), (3, .int x21), (0, .ref (ad 0)), (1, .int v1), (2, .int v2)] dX8_isEven_70 (by decide) rfl ?_
        refine zz_sub [2, 3, 4, 1, 0] [(0, .ref (ad 0)), (1, .int v1), (2, .int v2), (3, .int x21), (4, .int (0 : Int32))] rfl ?_
        exact zu8_isEven_72 K hret hB33 hB41 h
  exact key _ v1 v2 σ (Nat.lt_succ_self _) h0
set_option maxHeartbeats 4000000 in
set_option maxRecDepth 100000 in
theorem zu8_isEven_145 {p : Program} {l : Launch} {e : Env} {s : State} {m : MethodId} {args : Array Value} {below : List Frame} {meth : Method} {c : Code} {Q : State → Prop} {D : va_G} {A : Nat → Prop} {ad : Nat → Nat} {cy : Nat → ClassId} {v2 : Int32} {σ : zz_St} (K : zz_K p s m args c cX8_isEven 6 RX8 wsX8_isEven D (tysM cy) A (wM ad cy) []) {Qp : Int32 → zz_St → Prop} (hret : ∀ (r : Int32) (σ2 : zz_St), narrow .boolean (.int r) = .int r → Qp r σ2 → ∀ (pc : Nat) (lv : List (Nat × Value)), decode cX8_isEven pc = .ok (.ireturn, 1) → zz_G p l e zrm8_isEven s m args below meth c Q D A (wM ad cy) 6 pc lv [.int r] σ2) (h : zq8_isEven_145 v2 σ Qp) : zz_G p l e zrm8_isEven s m args below meth c Q D A (wM ad cy) 6 145 [(0, .ref (ad 0)), (2, .int v2)] [] σ := by
  unfold zq8_isEven_145 at h
  obtain ⟨I145, M145, h0, hs⟩ := h
  have key : ∀ (n : Nat) (v2 : Int32), M145 v2 < n → I145 v2 → zz_G p l e zrm8_isEven s m args below meth c Q D A (wM ad cy) 6 145 [(0, .ref (ad 0)), (2, .int v2)] [] σ := by
    intro n
    induction n with
    | zero => intro v2 hlt; exact absurd hlt (Nat.not_lt_zero _)
    | succ n ih =>
      intro v2 hlt hI
      have h := hs v2 hI
      have hB145 : ∀ (v2' : Int32), (fun v2' => I145 v2' ∧ M145 v2' < M145 v2) v2' → zz_G p l e zrm8_isEven s m args below meth c Q D A (wM ad cy) 6 145 [(0, .ref (ad 0)), (2, .int v2')] [] σ := fun v2' hz => ih v2' (Nat.lt_of_lt_of_le hz.2 (Nat.le_of_lt_succ hlt)) hz.1
      refine zz_iload_n K 1 dX8_isEven_145 rfl rfl ?_
      refine zz_aload_n K 0 dX8_isEven_146 rfl rfl ?_
      refine zg8_27 K zin_X8_isEven_X8 zlk_X8_isEven_1 dX8_isEven_147 ?_
      refine zz_icmp_ge K 171 dX8_isEven_150 rfl (fun c22 => ?_) (fun c22 => ?_)
      · have h := (And.left h) c22
        refine zz_iconst K dX8_isEven_171 zci_0 ?_
        exact hret _ _ rfl h _ _ dX8_isEven_172
      · have h := (And.right h) c22
        refine zz_aload_n K 0 dX8_isEven_153 rfl rfl ?_
        refine zg8_30 K zin_X8_isEven_X8 zlk_X8_isEven_2 dX8_isEven_154 ?_
        refine zz_iload_n K 1 dX8_isEven_157 rfl rfl ?_
        obtain ⟨hin, h⟩ := h
        refine zz_iaload K 0 (wM_at_30 ad cy σ) rfl hin dX8_isEven_158 ?_
        refine zz_iconst K dX8_isEven_159 zci_3 ?_
        refine zz_icmp_ne K 165 dX8_isEven_160 rfl (fun c23 => ?_) (fun c23 => ?_)
        · have h := (And.left h) c23
          refine zz_iinc K 1 [(2, .int (v2 + (1 : Int32))), (0, .ref (ad 0))] dX8_isEven_165 zci_1 rfl (by decide) rfl ?_
          refine zz_goto K 145 dX8_isEven_168 rfl ?_
          refine zz_sub [1, 0] [(0, .ref (ad 0)), (2, .int (v2 + (1 : Int32)))] rfl ?_
          exact hB145 (v2 + (1 : Int32)) h
        · have h := (And.right h) c23
          refine zz_iconst K dX8_isEven_163 zci_1 ?_
          exact hret _ _ rfl h _ _ dX8_isEven_164
  exact key _ v2 (Nat.lt_succ_self _) h0
set_option maxHeartbeats 4000000 in
set_option maxRecDepth 100000 in
theorem zu8_isEven_33 {p : Program} {l : Launch} {e : Env} {s : State} {m : MethodId} {args : Array Value} {below : List Frame} {meth : Method} {c : Code} {Q : State → Prop} {D : va_G} {A : Nat → Prop} {ad : Nat → Nat} {cy : Nat → ClassId} {v1 : Int32} {σ : zz_St} (K : zz_K p s m args c cX8_isEven 6 RX8 wsX8_isEven D (tysM cy) A (wM ad cy) []) {Qp : Int32 → zz_St → Prop} (hret : ∀ (r : Int32) (σ2 : zz_St), narrow .boolean (.int r) = .int r → Qp r σ2 → ∀ (pc : Nat) (lv : List (Nat × Value)), decode cX8_isEven pc = .ok (.ireturn, 1) → zz_G p l e zrm8_isEven s m args below meth c Q D A (wM ad cy) 6 pc lv [.int r] σ2) (h : zq8_isEven_33 v1 σ Qp) : zz_G p l e zrm8_isEven s m args below meth c Q D A (wM ad cy) 6 33 [(0, .ref (ad 0)), (1, .int v1)] [] σ := by
  unfold zq8_isEven_33 at h
  obtain ⟨I33, M33, h0, hs⟩ := h
  have key : ∀ (n : Nat) (v1 : Int32) (σ : zz_St), M33 v1 σ < n → I33 v1 σ → zz_G p l e zrm8_isEven s m args below meth c Q D A (wM ad cy) 6 33 [(0, .ref (ad 0)), (1, .int v1)] [] σ := by
    intro n
    induction n with
    | zero => intro v1 σ hlt; exact absurd hlt (Nat.not_lt_zero _)
    | succ n ih =>
      intro v1 σ hlt hI
      have h := hs v1 σ hI
      have hB33 : ∀ (v1' : Int32) (σ' : zz_St), (fun v1' σ' => I33 v1' σ' ∧ M33 v1' σ' < M33 v1 σ) v1' σ' → zz_G p l e zrm8_isEven s m args below meth c Q D A (wM ad cy) 6 33 [(0, .ref (ad 0)), (1, .int v1')] [] σ' := fun v1' σ' hz => ih v1' σ' (Nat.lt_of_lt_of_le hz.2 (Nat.le_of_lt_succ hlt)) hz.1
      refine zz_iload_n K 1 dX8_isEven_33 rfl rfl ?_
      refine zz_if_eq K 143 dX8_isEven_34 rfl (fun c24 => ?_) (fun c24 => ?_)
      · have h := (And.left h) c24
        refine zz_iconst K dX8_isEven_143 zci_0 ?_
        refine zz_istore_n K [(2, .int (0 : Int32)), (0, .ref (ad 0)), (1, .int v1)] dX8_isEven_144 rfl (by decide) rfl ?_
        refine zz_sub [1, 0] [(0, .ref (ad 0)), (2, .int (0 : Int32))] rfl ?_
        exact zu8_isEven_145 K hret h
      · have h := (And.right h) c24
        refine zz_iconst K dX8_isEven_37 zci_0 ?_
        refine zz_istore_n K [(1, .int (0 : Int32)), (0, .ref (ad 0))] dX8_isEven_38 rfl (by decide) rfl ?_
        refine zz_iconst K dX8_isEven_39 zci_0 ?_
        refine zz_istore_n K [(2, .int (0 : Int32)), (1, .int (0 : Int32)), (0, .ref (ad 0))] dX8_isEven_40 rfl (by decide) rfl ?_
        refine zz_sub [2, 1, 0] [(0, .ref (ad 0)), (1, .int (0 : Int32)), (2, .int (0 : Int32))] rfl ?_
        exact zu8_isEven_41 K hret hB33 h
  exact key _ v1 σ (Nat.lt_succ_self _) h0
set_option maxHeartbeats 4000000 in
set_option maxRecDepth 100000 in
theorem zu8_isEven_2 {p : Program} {l : Launch} {e : Env} {s : State} {m : MethodId} {args : Array Value} {below : List Frame} {meth : Method} {c : Code} {Q : State → Prop} {D : va_G} {A : Nat → Prop} {ad : Nat → Nat} {cy : Nat → ClassId} {v1 : Int32} {σ : zz_St} (K : zz_K p s m args c cX8_isEven 6 RX8 wsX8_isEven D (tysM cy) A (wM ad cy) []) {Qp : Int32 → zz_St → Prop} (hret : ∀ (r : Int32) (σ2 : zz_St), narrow .boolean (.int r) = .int r → Qp r σ2 → ∀ (pc : Nat) (lv : List (Nat × Value)), decode cX8_isEven pc = .ok (.ireturn, 1) → zz_G p l e zrm8_isEven s m args below meth c Q D A (wM ad cy) 6 pc lv [.int r] σ2) (h : zq8_isEven_2 v1 σ Qp) : zz_G p l e zrm8_isEven s m args below meth c Q D A (wM ad cy) 6 2 [(0, .ref (ad 0)), (1, .int v1)] [] σ := by
  unfold zq8_isEven_2 at h
  obtain ⟨I2, M2, h0, hs⟩ := h
  have key : ∀ (n : Nat) (v1 : Int32) (σ : zz_St), M2 v1 σ < n → I2 v1 σ → zz_G p l e zrm8_isEven s m args below meth c Q D A (wM ad cy) 6 2 [(0, .ref (ad 0)), (1, .int v1)] [] σ := by
    intro n
    induction n with
    | zero => intro v1 σ hlt; exact absurd hlt (Nat.not_lt_zero _)
    | succ n ih =>
      intro v1 σ hlt hI
      have h := hs v1 σ hI
      have hB2 : ∀ (v1' : Int32) (σ' : zz_St), (fun v1' σ' => I2 v1' σ' ∧ M2 v1' σ' < M2 v1 σ) v1' σ' → zz_G p l e zrm8_isEven s m args below meth c Q D A (wM ad cy) 6 2 [(0, .ref (ad 0)), (1, .int v1')] [] σ' := fun v1' σ' hz => ih v1' σ' (Nat.lt_of_lt_of_le hz.2 (Nat.le_of_lt_succ hlt)) hz.1
      refine zz_iload_n K 1 dX8_isEven_2 rfl rfl ?_
      refine zz_aload_n K 0 dX8_isEven_3 rfl rfl ?_
      refine zg8_27 K zin_X8_isEven_X8 zlk_X8_isEven_1 dX8_isEven_4 ?_
      refine zz_icmp_ge K 31 dX8_isEven_7 rfl (fun c25 => ?_) (fun c25 => ?_)
      · have h := (And.left h) c25
        refine zz_iconst K dX8_isEven_31 zci_1 ?_
        refine zz_istore_n K [(1, .int (1 : Int32)), (0, .ref (ad 0))] dX8_isEven_32 rfl (by decide) rfl ?_
        refine zz_sub [1, 0] [(0, .ref (ad 0)), (1, .int (1 : Int32))] rfl ?_
        exact zu8_isEven_33 K hret h
      · have h := (And.right h) c25
        refine zz_aload_n K 0 dX8_isEven_10 rfl rfl ?_
        refine zg8_30 K zin_X8_isEven_X8 zlk_X8_isEven_2 dX8_isEven_11 ?_
        refine zz_iload_n K 1 dX8_isEven_14 rfl rfl ?_
        refine zz_iload_n K 1 dX8_isEven_15 rfl rfl ?_
        refine zz_if_ne K 23 dX8_isEven_16 rfl (fun c26 => ?_) (fun c26 => ?_)
        · have h := (And.left h) c26
          refine zz_iconst K dX8_isEven_23 zci_0 ?_
          exact zu8_isEven_24 K hret hB2 h
        · have h := (And.right h) c26
          refine zz_iconst K dX8_isEven_19 zci_1 ?_
          refine zz_goto K 24 dX8_isEven_20 rfl ?_
          exact zu8_isEven_24 K hret hB2 h
  exact key _ v1 σ (Nat.lt_succ_self _) h0
set_option maxHeartbeats 4000000 in
set_option maxRecDepth 100000 in
theorem zu8_isEven_0 {p : Program} {l : Launch} {e : Env} {s : State} {m : MethodId} {args : Array Value} {below : List Frame} {meth : Method} {c : Code} {Q : State → Prop} {D : va_G} {A : Nat → Prop} {ad : Nat → Nat} {cy : Nat → ClassId}  {σ : zz_St} (K : zz_K p s m args c cX8_isEven 6 RX8 wsX8_isEven D (tysM cy) A (wM ad cy) []) {Qp : Int32 → zz_St → Prop} (hret : ∀ (r : Int32) (σ2 : zz_St), narrow .boolean (.int r) = .int r → Qp r σ2 → ∀ (pc : Nat) (lv : List (Nat × Value)), decode cX8_isEven pc = .ok (.ireturn, 1) → zz_G p l e zrm8_isEven s m args below meth c Q D A (wM ad cy) 6 pc lv [.int r] σ2) (h : zq8_isEven σ Qp) : zz_G p l e zrm8_isEven s m args below meth c Q D A (wM ad cy) 6 0 [(0, .ref (ad 0))] [] σ := by
  unfold zq8_isEven at h
  refine zz_iconst K dX8_isEven_0 zci_0 ?_
  refine zz_istore_n K [(1, .int (0 : Int32)), (0, .ref (ad 0))] dX8_isEven_1 rfl (by decide) rfl ?_
  refine zz_sub [1, 0] [(0, .ref (ad 0)), (1, .int (0 : Int32))] rfl ?_
  exact zu8_isEven_2 K hret h
set_option maxRecDepth 100000 in
theorem zc8_isEven (l : Launch) (D : va_G) (ad : Nat → Nat) (cy : Nat → ClassId)  (σ : zz_St) (Qp : Int32 → zz_St → Prop) (h : zq8_isEven σ Qp) : zz_Mi l yX8_isEven wsX8_isEven zrm8_isEven D (tysM cy) (wM ad cy) [] [.ref (ad 0)] σ Qp :=
  zz_Mi.of zz_nw_nil (wM_ad ad cy) (by decide +kernel) rfl ⟨rfl, rfl⟩ (Nat.le_of_ble_eq_true rfl) (fun p e s m args below meth c A QW K hret => zu8_isEven_0 K  hret h)
theorem zlk_X8_reached_1 : Cond.constantLong RX8 140 (3) ∈ wsX8_reached := List.mem_of_getElem? (i := 1) rfl
theorem zin_X8_reached_X8 : ∀ w ∈ wsX80, w ∈ wsX8_reached := fun w h => List.mem_cons_of_mem _ (List.mem_append_right _ h)
theorem zlk_X8_reached_2 : Cond.fieldLink RX8 38 "SolidsRolledModel" "isThere" "Z" ∈ wsX8_reached := List.mem_of_getElem? (i := 2) rfl
theorem zlk_X8_reached_4 : Cond.fieldLink RX8 69 "SolidsRolledModel" "far" "[I" ∈ wsX8_reached := List.mem_of_getElem? (i := 4) rfl
theorem zlk_X8_reached_3 : Cond.fieldLink RX8 251 "SolidsRolledModel" "many" "I" ∈ wsX8_reached := List.mem_of_getElem? (i := 3) rfl
theorem zds_yX8_isEven_v : yX8_isEven.cls = RX8 ∧ yX8_isEven.cls ≠ "java/lang/invoke/MethodHandle" ∧ yX8_isEven.cls ≠ "java/lang/invoke/VarHandle" ∧ (parseMethodDescriptor yX8_isEven.desc).map (fun d => d.parameters.length) = some 0 := by decide +kernel
theorem zds_yX8_placesReached_v : yX8_placesReached.cls = RX8 ∧ yX8_placesReached.cls ≠ "java/lang/invoke/MethodHandle" ∧ yX8_placesReached.cls ≠ "java/lang/invoke/VarHandle" ∧ (parseMethodDescriptor yX8_placesReached.desc).map (fun d => d.parameters.length) = some 0 := by decide +kernel
theorem zds_yX8_goesThrough_v : yX8_goesThrough.cls = RX8 ∧ yX8_goesThrough.cls ≠ "java/lang/invoke/MethodHandle" ∧ yX8_goesThrough.cls ≠ "java/lang/invoke/VarHandle" ∧ (parseMethodDescriptor yX8_goesThrough.desc).map (fun d => d.parameters.length) = some 0 := by decide +kernel
abbrev zrm8_reached : Room := { frames := 6, cells := 0, slots := 0, locals := 137 }
set_option maxHeartbeats 4000000 in
set_option maxRecDepth 100000 in
theorem zu8_reached_0 {p : Program} {l : Launch} {e : Env} {s : State} {m : MethodId} {args : Array Value} {below : List Frame} {meth : Method} {c : Code} {Q : State → Prop} {D : va_G} {A : Nat → Prop} {ad : Nat → Nat} {cy : Nat → ClassId} {v1 : Int32} {σ : zz_St} (K : zz_K p s m args c cX8_reached 2 RX8 wsX8_reached D (tysM cy) A (wM ad cy) []) {Qp : Int32 → zz_St → Prop} (hret : ∀ (r : Int32) (σ2 : zz_St), narrow .int (.int r) = .int r → Qp r σ2 → ∀ (pc : Nat) (lv : List (Nat × Value)), decode cX8_reached pc = .ok (.ireturn, 1) → zz_G p l e zrm8_reached s m args below meth c Q D A (wM ad cy) 2 pc lv [.int r] σ2) (h : zq8_reached v1 σ Qp) : zz_G p l e zrm8_reached s m args below meth c Q D A (wM ad cy) 2 0 [(0, .ref (ad 0)), (1, .int v1)] [] σ := by
  unfold zq8_reached at h
  refine zz_iload_n K 1 dX8_reached_0 rfl rfl ?_
  refine zz_i2l K dX8_reached_1 ?_
  refine zz_lconst K (v := (0 : Int64)) dX8_reached_2 rfl ?_
  refine zz_ldc2 K zlk_X8_reached_1 dX8_reached_3 ?_
  refine zz_callSi1 K zz_nw_nil [.long (v1.toInt64), .long (0 : Int64), .long (3 : Int64)] (zc8_in l D ad cy (v1.toInt64) (0 : Int64) (3 : Int64) σ _ h) gX8_reached_X8_in rfl ⟨rfl, rfl⟩ zds_yX8_in_s ⟨Nat.le_of_ble_eq_true rfl, Nat.le_of_ble_eq_true rfl⟩ rfl rfl (Nat.le_of_ble_eq_true rfl) dX8_reached_6 (fun r17 h => ?_)
  refine zz_if_ne K 19 dX8_reached_9 rfl (fun c18 => ?_) (fun c18 => ?_)
  · have h := (And.left h) c18
    refine zz_aload_n K 0 dX8_reached_19 rfl rfl ?_
    refine zg8_9 K zin_X8_reached_X8 zlk_X8_reached_2 dX8_reached_20 ?_
    refine zz_if_ne K 33 dX8_reached_23 rfl (fun c19 => ?_) (fun c19 => ?_)
    · have h := (And.left h) c19
      refine zz_aload_n K 0 dX8_reached_33 rfl rfl ?_
      refine zz_callVv K zz_nw_nil [] (zc8_goesThrough l D ad cy  σ _ h) gX8_reached_X8_goesThrough rfl ⟨rfl, rfl⟩ zds_yX8_goesThrough_v ⟨Nat.le_of_ble_eq_true rfl, Nat.le_of_ble_eq_true rfl⟩ (wM_at_0 ad cy _) rfl rfl rfl rfl (Nat.le_of_ble_eq_true rfl) dX8_reached_34 (fun g20 h => ?_)
      refine zz_iload_n K 1 dX8_reached_37 rfl rfl ?_
      refine zz_if_ne K 48 dX8_reached_38 rfl (fun c21 => ?_) (fun c21 => ?_)
      · have h := (And.left h) c21
        refine zz_iload_n K 1 dX8_reached_48 rfl rfl ?_
        refine zz_iconst K dX8_reached_49 zci_1 ?_
        refine zz_icmp_ne K 60 dX8_reached_50 rfl (fun c22 => ?_) (fun c22 => ?_)
        · have h := (And.left h) c22
          refine zz_iload_n K 1 dX8_reached_60 rfl rfl ?_
          refine zz_iconst K dX8_reached_61 zci_2 ?_
          refine zz_icmp_ne K 80 dX8_reached_62 rfl (fun c23 => ?_) (fun c23 => ?_)
          · have h := (And.left h) c23
            refine zz_aload_n K 0 dX8_reached_80 rfl rfl ?_
            refine zg8_25 K zin_X8_reached_X8 zlk_X8_reached_4 dX8_reached_81 ?_
            refine zz_aload_n K 0 dX8_reached_84 rfl rfl ?_
            refine zg8_27 K zin_X8_reached_X8 zlk_X8_reached_3 dX8_reached_85 ?_
            refine zz_iconst K dX8_reached_88 zci_1 ?_
            refine zz_isub K dX8_reached_89 ?_
            obtain ⟨hin, h⟩ := h
            refine zz_iaload K 0 (wM_at_25 ad cy g20) rfl hin dX8_reached_90 ?_
            exact hret _ _ rfl h _ _ dX8_reached_91
          · have h := (And.right h) c23
            refine zz_aload_n K 0 dX8_reached_65 rfl rfl ?_
            refine zz_callVi K zz_nw_nil [] (zc8_isEven l D ad cy  g20 _ h) gX8_reached_X8_isEven rfl ⟨rfl, rfl⟩ zds_yX8_isEven_v ⟨Nat.le_of_ble_eq_true rfl, Nat.le_of_ble_eq_true rfl⟩ (wM_at_0 ad cy _) rfl rfl rfl rfl (Nat.le_of_ble_eq_true rfl) dX8_reached_66 (fun r24 g25 h => ?_)
            refine zz_if_eq K 76 dX8_reached_69 rfl (fun c26 => ?_) (fun c26 => ?_)
            · have h := (And.left h) c26
              refine zz_iconst K dX8_reached_76 zci_0 ?_
              refine zz_goto K 91 dX8_reached_77 rfl ?_
              exact hret _ _ rfl h _ _ dX8_reached_91
            · have h := (And.right h) c26
              refine zz_iconst K dX8_reached_72 zci_1 ?_
              refine zz_goto K 91 dX8_reached_73 rfl ?_
              exact hret _ _ rfl h _ _ dX8_reached_91
        · have h := (And.right h) c22
          refine zz_aload_n K 0 dX8_reached_53 rfl rfl ?_
          refine zz_callVi K zz_nw_nil [] (zc8_placesReached l D ad cy  g20 _ h) gX8_reached_X8_placesReached rfl ⟨rfl, rfl⟩ zds_yX8_placesReached_v ⟨Nat.le_of_ble_eq_true rfl, Nat.le_of_ble_eq_true rfl⟩ (wM_at_0 ad cy _) rfl rfl rfl rfl (Nat.le_of_ble_eq_true rfl) dX8_reached_54 (fun r27 g28 h => ?_)
          refine zz_goto K 91 dX8_reached_57 rfl ?_
          exact hret _ _ rfl h _ _ dX8_reached_91
      · have h := (And.right h) c21
        refine zz_aload_n K 0 dX8_reached_41 rfl rfl ?_
        refine zg8_27 K zin_X8_reached_X8 zlk_X8_reached_3 dX8_reached_42 ?_
        refine zz_goto K 91 dX8_reached_45 rfl ?_
        exact hret _ _ rfl h _ _ dX8_reached_91
    · have h := (And.right h) c19
      refine zz_aload_n K 0 dX8_reached_26 rfl rfl ?_
      refine zz_bipush K dX8_reached_27 zcb_m3 ?_
      refine zz_callVi K zz_nw_nil [.int (-3 : Int32)] (zc8_no l D ad cy (-3 : Int32) σ _ h) gX8_reached_X8_no rfl ⟨rfl, rfl⟩ zds_yX8_no_v ⟨Nat.le_of_ble_eq_true rfl, Nat.le_of_ble_eq_true rfl⟩ (wM_at_0 ad cy _) rfl rfl rfl rfl (Nat.le_of_ble_eq_true rfl) dX8_reached_29 (fun r29 g30 h => ?_)
      exact hret _ _ rfl h _ _ dX8_reached_32
  · have h := (And.right h) c18
    refine zz_aload_n K 0 dX8_reached_12 rfl rfl ?_
    refine zz_bipush K dX8_reached_13 zcb_m2 ?_
    refine zz_callVi K zz_nw_nil [.int (-2 : Int32)] (zc8_no l D ad cy (-2 : Int32) σ _ h) gX8_reached_X8_no rfl ⟨rfl, rfl⟩ zds_yX8_no_v ⟨Nat.le_of_ble_eq_true rfl, Nat.le_of_ble_eq_true rfl⟩ (wM_at_0 ad cy _) rfl rfl rfl rfl (Nat.le_of_ble_eq_true rfl) dX8_reached_15 (fun r31 g32 h => ?_)
    exact hret _ _ rfl h _ _ dX8_reached_18
set_option maxRecDepth 100000 in
theorem zc8_reached (l : Launch) (D : va_G) (ad : Nat → Nat) (cy : Nat → ClassId) (v1 : Int32) (σ : zz_St) (Qp : Int32 → zz_St → Prop) (h : zq8_reached v1 σ Qp) : zz_Mi l yX8_reached wsX8_reached zrm8_reached D (tysM cy) (wM ad cy) [] [.ref (ad 0), .int v1] σ Qp :=
  zz_Mi.of zz_nw_nil (wM_ad ad cy) (by decide +kernel) rfl ⟨rfl, rfl⟩ (Nat.le_of_ble_eq_true rfl) (fun p e s m args below meth c A QW K hret => zu8_reached_0 K  hret h)
theorem zin_X8_keeps2_X8 : ∀ w ∈ wsX80, w ∈ wsX8_keeps2 := fun w h => List.mem_cons_of_mem _ (List.mem_append_right _ h)
theorem zlk_X8_keeps2_1 : Cond.fieldLink RX8 147 "SolidsRolledModel" "place" "I" ∈ wsX8_keeps2 := List.mem_of_getElem? (i := 1) rfl
theorem zlk_X8_keeps2_2 : Cond.fieldLink RX8 278 "SolidsRolledModel" "placeBeside" "I" ∈ wsX8_keeps2 := List.mem_of_getElem? (i := 2) rfl
theorem zlk_X8_keeps2_3 : Cond.fieldLink RX8 82 "SolidsRolledModel" "facesBeside" "[I" ∈ wsX8_keeps2 := List.mem_of_getElem? (i := 3) rfl
theorem zlk_X8_keeps2_4 : Cond.fieldLink RX8 42 "SolidsRolledModel" "faces" "[I" ∈ wsX8_keeps2 := List.mem_of_getElem? (i := 4) rfl
abbrev zrm8_keeps2 : Room := { frames := 0, cells := 0, slots := 0, locals := 0 }
set_option maxHeartbeats 4000000 in
set_option maxRecDepth 100000 in
theorem zu8_keeps2_10 {p : Program} {l : Launch} {e : Env} {s : State} {m : MethodId} {args : Array Value} {below : List Frame} {meth : Method} {c : Code} {Q : State → Prop} {D : va_G} {A : Nat → Prop} {ad : Nat → Nat} {cy : Nat → ClassId} {v1 : Int32} {σ : zz_St} (K : zz_K p s m args c cX8_keeps2 2 RX8 wsX8_keeps2 D (tysM cy) A (wM ad cy) []) {Qp : zz_St → Prop} (hret : ∀ (σ2 : zz_St), Qp σ2 → ∀ (pc : Nat) (lv : List (Nat × Value)), decode cX8_keeps2 pc = .ok (.return_, 1) → zz_G p l e zrm8_keeps2 s m args below meth c Q D A (wM ad cy) 2 pc lv [] σ2) (h : zq8_keeps2_10 v1 σ Qp) : zz_G p l e zrm8_keeps2 s m args below meth c Q D A (wM ad cy) 2 10 [(0, .ref (ad 0)), (1, .int v1)] [] σ := by
  unfold zq8_keeps2_10 at h
  obtain ⟨I10, M10, h0, hs⟩ := h
  have key : ∀ (n : Nat) (v1 : Int32) (σ : zz_St), M10 v1 σ < n → I10 v1 σ → zz_G p l e zrm8_keeps2 s m args below meth c Q D A (wM ad cy) 2 10 [(0, .ref (ad 0)), (1, .int v1)] [] σ := by
    intro n
    induction n with
    | zero => intro v1 σ hlt; exact absurd hlt (Nat.not_lt_zero _)
    | succ n ih =>
      intro v1 σ hlt hI
      have h := hs v1 σ hI
      have hB10 : ∀ (v1' : Int32) (σ' : zz_St), (fun v1' σ' => I10 v1' σ' ∧ M10 v1' σ' < M10 v1 σ) v1' σ' → zz_G p l e zrm8_keeps2 s m args below meth c Q D A (wM ad cy) 2 10 [(0, .ref (ad 0)), (1, .int v1')] [] σ' := fun v1' σ' hz => ih v1' σ' (Nat.lt_of_lt_of_le hz.2 (Nat.le_of_lt_succ hlt)) hz.1
      refine zz_iload_n K 1 dX8_keeps2_10 rfl rfl ?_
      refine zz_bipush K dX8_keeps2_11 zcb_6 ?_
      refine zz_icmp_ge K 34 dX8_keeps2_13 rfl (fun c4 => ?_) (fun c4 => ?_)
      · have h := (And.left h) c4
        exact hret _ h _ _ dX8_keeps2_34
      · have h := (And.right h) c4
        refine zz_aload_n K 0 dX8_keeps2_16 rfl rfl ?_
        refine zg8_32 K zin_X8_keeps2_X8 zlk_X8_keeps2_3 dX8_keeps2_17 ?_
        refine zz_iload_n K 1 dX8_keeps2_20 rfl rfl ?_
        refine zz_aload_n K 0 dX8_keeps2_21 rfl rfl ?_
        refine zg8_10 K zin_X8_keeps2_X8 zlk_X8_keeps2_4 dX8_keeps2_22 ?_
        refine zz_iload_n K 1 dX8_keeps2_25 rfl rfl ?_
        obtain ⟨hin, h⟩ := h
        refine zz_iaload K 0 (wM_at_10 ad cy σ) rfl hin dX8_keeps2_26 ?_
        obtain ⟨hin, h⟩ := h
        refine zz_iastore K 0 (σ2 := zz_A σ 32 (upd ((σ).2.1 32) v1.toNatClampNeg ((σ).2.1 10 v1.toNatClampNeg))) (wM_at_32 ad cy σ) (wM_set_32 ad cy σ _) rfl hin dX8_keeps2_27 ?_
        refine zz_nms (fun g5 eg5 => ?_)
        have h := h g5 eg5
        refine zz_iinc K 1 [(1, .int (v1 + (1 : Int32))), (0, .ref (ad 0))] dX8_keeps2_28 zci_1 rfl (by decide) rfl ?_
        refine zz_goto K 10 dX8_keeps2_31 rfl ?_
        refine zz_sub [1, 0] [(0, .ref (ad 0)), (1, .int (v1 + (1 : Int32)))] rfl ?_
        exact hB10 (v1 + (1 : Int32)) g5 h
  exact key _ v1 σ (Nat.lt_succ_self _) h0
set_option maxHeartbeats 4000000 in
set_option maxRecDepth 100000 in
theorem zu8_keeps2_0 {p : Program} {l : Launch} {e : Env} {s : State} {m : MethodId} {args : Array Value} {below : List Frame} {meth : Method} {c : Code} {Q : State → Prop} {D : va_G} {A : Nat → Prop} {ad : Nat → Nat} {cy : Nat → ClassId}  {σ : zz_St} (K : zz_K p s m args c cX8_keeps2 2 RX8 wsX8_keeps2 D (tysM cy) A (wM ad cy) []) {Qp : zz_St → Prop} (hret : ∀ (σ2 : zz_St), Qp σ2 → ∀ (pc : Nat) (lv : List (Nat × Value)), decode cX8_keeps2 pc = .ok (.return_, 1) → zz_G p l e zrm8_keeps2 s m args below meth c Q D A (wM ad cy) 2 pc lv [] σ2) (h : zq8_keeps2 σ Qp) : zz_G p l e zrm8_keeps2 s m args below meth c Q D A (wM ad cy) 2 0 [(0, .ref (ad 0))] [] σ := by
  unfold zq8_keeps2 at h
  refine zz_aload_n K 0 dX8_keeps2_0 rfl rfl ?_
  refine zz_aload_n K 0 dX8_keeps2_1 rfl rfl ?_
  refine zg8_8 K zin_X8_keeps2_X8 zlk_X8_keeps2_1 dX8_keeps2_2 ?_
  refine zp8_31 K zin_X8_keeps2_X8 zlk_X8_keeps2_2 dX8_keeps2_5 ?_
  refine zz_nms (fun g6 eg6 => ?_)
  have h := h g6 eg6
  refine zz_iconst K dX8_keeps2_8 zci_0 ?_
  refine zz_istore_n K [(1, .int (0 : Int32)), (0, .ref (ad 0))] dX8_keeps2_9 rfl (by decide) rfl ?_
  refine zz_sub [1, 0] [(0, .ref (ad 0)), (1, .int (0 : Int32))] rfl ?_
  exact zu8_keeps2_10 K hret h
set_option maxRecDepth 100000 in
theorem zc8_keeps2 (l : Launch) (D : va_G) (ad : Nat → Nat) (cy : Nat → ClassId)  (σ : zz_St) (Qp : zz_St → Prop) (h : zq8_keeps2 σ Qp) : zz_Mv l yX8_keeps2 wsX8_keeps2 zrm8_keeps2 D (tysM cy) (wM ad cy) [] [.ref (ad 0)] σ Qp :=
  zz_Mv.of zz_nw_nil (wM_ad ad cy) (by decide +kernel) rfl ⟨rfl, rfl⟩ (Nat.le_of_ble_eq_true rfl) (fun p e s m args below meth c A QW K hret => zu8_keeps2_0 K  hret h)
theorem zin_X8_lays2_X8 : ∀ w ∈ wsX80, w ∈ wsX8_lays2 := fun w h => List.mem_cons_of_mem _ (List.mem_append_right _ h)
theorem zlk_X8_lays2_1 : Cond.fieldLink RX8 278 "SolidsRolledModel" "placeBeside" "I" ∈ wsX8_lays2 := List.mem_of_getElem? (i := 1) rfl
theorem zlk_X8_lays2_2 : Cond.fieldLink RX8 147 "SolidsRolledModel" "place" "I" ∈ wsX8_lays2 := List.mem_of_getElem? (i := 2) rfl
theorem zlk_X8_lays2_3 : Cond.fieldLink RX8 42 "SolidsRolledModel" "faces" "[I" ∈ wsX8_lays2 := List.mem_of_getElem? (i := 3) rfl
theorem zlk_X8_lays2_4 : Cond.fieldLink RX8 82 "SolidsRolledModel" "facesBeside" "[I" ∈ wsX8_lays2 := List.mem_of_getElem? (i := 4) rfl
abbrev zrm8_lays2 : Room := { frames := 0, cells := 0, slots := 0, locals := 0 }
set_option maxHeartbeats 4000000 in
set_option maxRecDepth 100000 in
theorem zu8_lays2_10 {p : Program} {l : Launch} {e : Env} {s : State} {m : MethodId} {args : Array Value} {below : List Frame} {meth : Method} {c : Code} {Q : State → Prop} {D : va_G} {A : Nat → Prop} {ad : Nat → Nat} {cy : Nat → ClassId} {v1 : Int32} {σ : zz_St} (K : zz_K p s m args c cX8_lays2 2 RX8 wsX8_lays2 D (tysM cy) A (wM ad cy) []) {Qp : zz_St → Prop} (hret : ∀ (σ2 : zz_St), Qp σ2 → ∀ (pc : Nat) (lv : List (Nat × Value)), decode cX8_lays2 pc = .ok (.return_, 1) → zz_G p l e zrm8_lays2 s m args below meth c Q D A (wM ad cy) 2 pc lv [] σ2) (h : zq8_lays2_10 v1 σ Qp) : zz_G p l e zrm8_lays2 s m args below meth c Q D A (wM ad cy) 2 10 [(0, .ref (ad 0)), (1, .int v1)] [] σ := by
  unfold zq8_lays2_10 at h
  obtain ⟨I10, M10, h0, hs⟩ := h
  have key : ∀ (n : Nat) (v1 : Int32) (σ : zz_St), M10 v1 σ < n → I10 v1 σ → zz_G p l e zrm8_lays2 s m args below meth c Q D A (wM ad cy) 2 10 [(0, .ref (ad 0)), (1, .int v1)] [] σ := by
    intro n
    induction n with
    | zero => intro v1 σ hlt; exact absurd hlt (Nat.not_lt_zero _)
    | succ n ih =>
      intro v1 σ hlt hI
      have h := hs v1 σ hI
      have hB10 : ∀ (v1' : Int32) (σ' : zz_St), (fun v1' σ' => I10 v1' σ' ∧ M10 v1' σ' < M10 v1 σ) v1' σ' → zz_G p l e zrm8_lays2 s m args below meth c Q D A (wM ad cy) 2 10 [(0, .ref (ad 0)), (1, .int v1')] [] σ' := fun v1' σ' hz => ih v1' σ' (Nat.lt_of_lt_of_le hz.2 (Nat.le_of_lt_succ hlt)) hz.1
      refine zz_iload_n K 1 dX8_lays2_10 rfl rfl ?_
      refine zz_bipush K dX8_lays2_11 zcb_6 ?_
      refine zz_icmp_ge K 34 dX8_lays2_13 rfl (fun c4 => ?_) (fun c4 => ?_)
      · have h := (And.left h) c4
        exact hret _ h _ _ dX8_lays2_34
      · have h := (And.right h) c4
        refine zz_aload_n K 0 dX8_lays2_16 rfl rfl ?_
        refine zg8_10 K zin_X8_lays2_X8 zlk_X8_lays2_3 dX8_lays2_17 ?_
        refine zz_iload_n K 1 dX8_lays2_20 rfl rfl ?_
        refine zz_aload_n K 0 dX8_lays2_21 rfl rfl ?_
        refine zg8_32 K zin_X8_lays2_X8 zlk_X8_lays2_4 dX8_lays2_22 ?_
        refine zz_iload_n K 1 dX8_lays2_25 rfl rfl ?_
        obtain ⟨hin, h⟩ := h
        refine zz_iaload K 0 (wM_at_32 ad cy σ) rfl hin dX8_lays2_26 ?_
        obtain ⟨hin, h⟩ := h
        refine zz_iastore K 0 (σ2 := zz_A σ 10 (upd ((σ).2.1 10) v1.toNatClampNeg ((σ).2.1 32 v1.toNatClampNeg))) (wM_at_10 ad cy σ) (wM_set_10 ad cy σ _) rfl hin dX8_lays2_27 ?_
        refine zz_nms (fun g5 eg5 => ?_)
        have h := h g5 eg5
        refine zz_iinc K 1 [(1, .int (v1 + (1 : Int32))), (0, .ref (ad 0))] dX8_lays2_28 zci_1 rfl (by decide) rfl ?_
        refine zz_goto K 10 dX8_lays2_31 rfl ?_
        refine zz_sub [1, 0] [(0, .ref (ad 0)), (1, .int (v1 + (1 : Int32)))] rfl ?_
        exact hB10 (v1 + (1 : Int32)) g5 h
  exact key _ v1 σ (Nat.lt_succ_self _) h0
set_option maxHeartbeats 4000000 in
set_option maxRecDepth 100000 in
theorem zu8_lays2_0 {p : Program} {l : Launch} {e : Env} {s : State} {m : MethodId} {args : Array Value} {below : List Frame} {meth : Method} {c : Code} {Q : State → Prop} {D : va_G} {A : Nat → Prop} {ad : Nat → Nat} {cy : Nat → ClassId}  {σ : zz_St} (K : zz_K p s m args c cX8_lays2 2 RX8 wsX8_lays2 D (tysM cy) A (wM ad cy) []) {Qp : zz_St → Prop} (hret : ∀ (σ2 : zz_St), Qp σ2 → ∀ (pc : Nat) (lv : List (Nat × Value)), decode cX8_lays2 pc = .ok (.return_, 1) → zz_G p l e zrm8_lays2 s m args below meth c Q D A (wM ad cy) 2 pc lv [] σ2) (h : zq8_lays2 σ Qp) : zz_G p l e zrm8_lays2 s m args below meth c Q D A (wM ad cy) 2 0 [(0, .ref (ad 0))] [] σ := by
  unfold zq8_lays2 at h
  refine zz_aload_n K 0 dX8_lays2_0 rfl rfl ?_
  refine zz_aload_n K 0 dX8_lays2_1 rfl rfl ?_
  refine zg8_31 K zin_X8_lays2_X8 zlk_X8_lays2_1 dX8_lays2_2 ?_
  refine zp8_8 K zin_X8_lays2_X8 zlk_X8_lays2_2 dX8_lays2_5 ?_
  refine zz_nms (fun g6 eg6 => ?_)
  have h := h g6 eg6
  refine zz_iconst K dX8_lays2_8 zci_0 ?_
  refine zz_istore_n K [(1, .int (0 : Int32)), (0, .ref (ad 0))] dX8_lays2_9 rfl (by decide) rfl ?_
  refine zz_sub [1, 0] [(0, .ref (ad 0)), (1, .int (0 : Int32))] rfl ?_
  exact zu8_lays2_10 K hret h
set_option maxRecDepth 100000 in
theorem zc8_lays2 (l : Launch) (D : va_G) (ad : Nat → Nat) (cy : Nat → ClassId)  (σ : zz_St) (Qp : zz_St → Prop) (h : zq8_lays2 σ Qp) : zz_Mv l yX8_lays2 wsX8_lays2 zrm8_lays2 D (tysM cy) (wM ad cy) [] [.ref (ad 0)] σ Qp :=
  zz_Mv.of zz_nw_nil (wM_ad ad cy) (by decide +kernel) rfl ⟨rfl, rfl⟩ (Nat.le_of_ble_eq_true rfl) (fun p e s m args below meth c A QW K hret => zu8_lays2_0 K  hret h)
theorem zin_X8_isGoal_X8 : ∀ w ∈ wsX80, w ∈ wsX8_isGoal := fun w h => List.mem_cons_of_mem _ (List.mem_append_right _ h)
theorem zlk_X8_isGoal_1 : Cond.fieldLink RX8 63 "SolidsRolledModel" "queuePlace" "[I" ∈ wsX8_isGoal := List.mem_of_getElem? (i := 1) rfl
theorem zds_yX8_lays2_v : yX8_lays2.cls = RX8 ∧ yX8_lays2.cls ≠ "java/lang/invoke/MethodHandle" ∧ yX8_lays2.cls ≠ "java/lang/invoke/VarHandle" ∧ (parseMethodDescriptor yX8_lays2.desc).map (fun d => d.parameters.length) = some 0 := by decide +kernel
theorem zds_yX8_keeps2_v : yX8_keeps2.cls = RX8 ∧ yX8_keeps2.cls ≠ "java/lang/invoke/MethodHandle" ∧ yX8_keeps2.cls ≠ "java/lang/invoke/VarHandle" ∧ (parseMethodDescriptor yX8_keeps2.desc).map (fun d => d.parameters.length) = some 0 := by decide +kernel
abbrev zrm8_isGoal : Room := { frames := 2, cells := 0, slots := 0, locals := 40 }
set_option maxHeartbeats 4000000 in
set_option maxRecDepth 100000 in
theorem zu8_isGoal_52 {p : Program} {l : Launch} {e : Env} {s : State} {m : MethodId} {args : Array Value} {below : List Frame} {meth : Method} {c : Code} {Q : State → Prop} {D : va_G} {A : Nat → Prop} {ad : Nat → Nat} {cy : Nat → ClassId} {s0 : Int32} {σ : zz_St} (K : zz_K p s m args c cX8_isGoal 5 RX8 wsX8_isGoal D (tysM cy) A (wM ad cy) []) {Qp : Int32 → zz_St → Prop} (hret : ∀ (r : Int32) (σ2 : zz_St), narrow .boolean (.int r) = .int r → Qp r σ2 → ∀ (pc : Nat) (lv : List (Nat × Value)), decode cX8_isGoal pc = .ok (.ireturn, 1) → zz_G p l e zrm8_isGoal s m args below meth c Q D A (wM ad cy) 5 pc lv [.int r] σ2) (h : zq8_isGoal_52 s0 σ Qp) : zz_G p l e zrm8_isGoal s m args below meth c Q D A (wM ad cy) 5 52 [(0, .ref (ad 0))] [.int s0] σ := by
  unfold zq8_isGoal_52 at h
  refine zz_istore K [(4, .int s0), (0, .ref (ad 0))] dX8_isGoal_52 (by decide) rfl ?_
  refine zz_aload_n K 1 dX8_isGoal_54 rfl rfl ?_
  refine zz_callVv K zz_nw_nil [] (zc8_lays2 l D ad cy  σ _ h) gX8_isGoal_X8_lays2 rfl ⟨rfl, rfl⟩ zds_yX8_lays2_v ⟨Nat.le_of_ble_eq_true rfl, Nat.le_of_ble_eq_true rfl⟩ (wM_at_0 ad cy _) rfl rfl rfl rfl (Nat.le_of_ble_eq_true rfl) dX8_isGoal_55 (fun g12 h => ?_)
  refine zz_iload K 0 dX8_isGoal_58 rfl ?_
  obtain ⟨hnb, h⟩ := h
  exact hret _ _ (zz_nb hnb) h _ _ dX8_isGoal_60
set_option maxHeartbeats 4000000 in
set_option maxRecDepth 100000 in
theorem zu8_isGoal_47 {p : Program} {l : Launch} {e : Env} {s : State} {m : MethodId} {args : Array Value} {below : List Frame} {meth : Method} {c : Code} {Q : State → Prop} {D : va_G} {A : Nat → Prop} {ad : Nat → Nat} {cy : Nat → ClassId}  {σ : zz_St} (K : zz_K p s m args c cX8_isGoal 5 RX8 wsX8_isGoal D (tysM cy) A (wM ad cy) []) {Qp : Int32 → zz_St → Prop} (hret : ∀ (r : Int32) (σ2 : zz_St), narrow .boolean (.int r) = .int r → Qp r σ2 → ∀ (pc : Nat) (lv : List (Nat × Value)), decode cX8_isGoal pc = .ok (.ireturn, 1) → zz_G p l e zrm8_isGoal s m args below meth c Q D A (wM ad cy) 5 pc lv [.int r] σ2) (h : zq8_isGoal_47 σ Qp) : zz_G p l e zrm8_isGoal s m args below meth c Q D A (wM ad cy) 5 47 [(0, .ref (ad 0))] [] σ := by
  unfold zq8_isGoal_47 at h
  refine zz_iconst K dX8_isGoal_47 zci_1 ?_
  refine zz_goto K 52 dX8_isGoal_48 rfl ?_
  exact zu8_isGoal_52 K hret h
set_option maxHeartbeats 4000000 in
set_option maxRecDepth 100000 in
theorem zu8_isGoal_51 {p : Program} {l : Launch} {e : Env} {s : State} {m : MethodId} {args : Array Value} {below : List Frame} {meth : Method} {c : Code} {Q : State → Prop} {D : va_G} {A : Nat → Prop} {ad : Nat → Nat} {cy : Nat → ClassId}  {σ : zz_St} (K : zz_K p s m args c cX8_isGoal 5 RX8 wsX8_isGoal D (tysM cy) A (wM ad cy) []) {Qp : Int32 → zz_St → Prop} (hret : ∀ (r : Int32) (σ2 : zz_St), narrow .boolean (.int r) = .int r → Qp r σ2 → ∀ (pc : Nat) (lv : List (Nat × Value)), decode cX8_isGoal pc = .ok (.ireturn, 1) → zz_G p l e zrm8_isGoal s m args below meth c Q D A (wM ad cy) 5 pc lv [.int r] σ2) (h : zq8_isGoal_51 σ Qp) : zz_G p l e zrm8_isGoal s m args below meth c Q D A (wM ad cy) 5 51 [(0, .ref (ad 0))] [] σ := by
  unfold zq8_isGoal_51 at h
  refine zz_iconst K dX8_isGoal_51 zci_0 ?_
  exact zu8_isGoal_52 K hret h
set_option maxHeartbeats 4000000 in
set_option maxRecDepth 100000 in
theorem zu8_isGoal_33 {p : Program} {l : Launch} {e : Env} {s : State} {m : MethodId} {args : Array Value} {below : List Frame} {meth : Method} {c : Code} {Q : State → Prop} {D : va_G} {A : Nat → Prop} {ad : Nat → Nat} {cy : Nat → ClassId}  {σ : zz_St} (K : zz_K p s m args c cX8_isGoal 5 RX8 wsX8_isGoal D (tysM cy) A (wM ad cy) []) {Qp : Int32 → zz_St → Prop} (hret : ∀ (r : Int32) (σ2 : zz_St), narrow .boolean (.int r) = .int r → Qp r σ2 → ∀ (pc : Nat) (lv : List (Nat × Value)), decode cX8_isGoal pc = .ok (.ireturn, 1) → zz_G p l e zrm8_isGoal s m args below meth c Q D A (wM ad cy) 5 pc lv [.int r] σ2) (h : zq8_isGoal_33 σ Qp) : zz_G p l e zrm8_isGoal s m args below meth c Q D A (wM ad cy) 5 33 [(0, .ref (ad 0))] [] σ := by
  unfold zq8_isGoal_33 at h
  refine zz_aload_n K 0 dX8_isGoal_33 rfl rfl ?_
  refine zz_callVi1 K zz_nw_nil [] (zc8_isBlock l D ad cy  σ _ h) gX8_isGoal_X8_isBlock rfl ⟨rfl, rfl⟩ zds_yX8_isBlock_v ⟨Nat.le_of_ble_eq_true rfl, Nat.le_of_ble_eq_true rfl⟩ (wM_at_0 ad cy _) rfl rfl rfl rfl (Nat.le_of_ble_eq_true rfl) dX8_isGoal_34 (fun r13 h => ?_)
  refine zz_if_eq K 47 dX8_isGoal_37 rfl (fun c14 => ?_) (fun c14 => ?_)
  · have h := (And.left h) c14
    exact zu8_isGoal_47 K hret h
  · have h := (And.right h) c14
    refine zz_aload_n K 0 dX8_isGoal_40 rfl rfl ?_
    refine zz_callVi1 K zz_nw_nil [] (zc8_lying l D ad cy  σ _ h) gX8_isGoal_X8_lying rfl ⟨rfl, rfl⟩ zds_yX8_lying_v ⟨Nat.le_of_ble_eq_true rfl, Nat.le_of_ble_eq_true rfl⟩ (wM_at_0 ad cy _) rfl rfl rfl rfl (Nat.le_of_ble_eq_true rfl) dX8_isGoal_41 (fun r15 h => ?_)
    refine zz_if_ne K 51 dX8_isGoal_44 rfl (fun c16 => ?_) (fun c16 => ?_)
    · have h := (And.left h) c16
      exact zu8_isGoal_51 K hret h
    · have h := (And.right h) c16
      exact zu8_isGoal_47 K hret h
set_option maxHeartbeats 4000000 in
set_option maxRecDepth 100000 in
theorem zu8_isGoal_0 {p : Program} {l : Launch} {e : Env} {s : State} {m : MethodId} {args : Array Value} {below : List Frame} {meth : Method} {c : Code} {Q : State → Prop} {D : va_G} {A : Nat → Prop} {ad : Nat → Nat} {cy : Nat → ClassId} {v1 : Int32} {v2 : Int32} {v3 : Int32} {σ : zz_St} (K : zz_K p s m args c cX8_isGoal 5 RX8 wsX8_isGoal D (tysM cy) A (wM ad cy) []) {Qp : Int32 → zz_St → Prop} (hret : ∀ (r : Int32) (σ2 : zz_St), narrow .boolean (.int r) = .int r → Qp r σ2 → ∀ (pc : Nat) (lv : List (Nat × Value)), decode cX8_isGoal pc = .ok (.ireturn, 1) → zz_G p l e zrm8_isGoal s m args below meth c Q D A (wM ad cy) 5 pc lv [.int r] σ2) (h : zq8_isGoal v1 v2 v3 σ Qp) : zz_G p l e zrm8_isGoal s m args below meth c Q D A (wM ad cy) 5 0 [(0, .ref (ad 0)), (1, .int v1), (2, .int v2), (3, .int v3)] [] σ := by
  unfold zq8_isGoal at h
  refine zz_aload_n K 0 dX8_isGoal_0 rfl rfl ?_
  refine zg8_23 K zin_X8_isGoal_X8 zlk_X8_isGoal_1 dX8_isGoal_1 ?_
  refine zz_iload_n K 1 dX8_isGoal_4 rfl rfl ?_
  obtain ⟨hin, h⟩ := h
  refine zz_iaload K 0 (wM_at_23 ad cy σ) rfl hin dX8_isGoal_5 ?_
  refine zz_iload_n K 2 dX8_isGoal_6 rfl rfl ?_
  refine zz_icmp_eq K 12 dX8_isGoal_7 rfl (fun c17 => ?_) (fun c17 => ?_)
  · have h := (And.left h) c17
    refine zz_aload_n K 0 dX8_isGoal_12 rfl rfl ?_
    refine zz_callVv K zz_nw_nil [] (zc8_keeps2 l D ad cy  σ _ h) gX8_isGoal_X8_keeps2 rfl ⟨rfl, rfl⟩ zds_yX8_keeps2_v ⟨Nat.le_of_ble_eq_true rfl, Nat.le_of_ble_eq_true rfl⟩ (wM_at_0 ad cy _) rfl rfl rfl rfl (Nat.le_of_ble_eq_true rfl) dX8_isGoal_13 (fun g18 h => ?_)
    refine zz_aload_n K 0 dX8_isGoal_16 rfl rfl ?_
    refine zz_iload_n K 1 dX8_isGoal_17 rfl rfl ?_
    refine zz_callVv K zz_nw_nil [.int v1] (zc8_loads l D ad cy v1 g18 _ h) gX8_isGoal_X8_loads rfl ⟨rfl, rfl⟩ zds_yX8_loads_v ⟨Nat.le_of_ble_eq_true rfl, Nat.le_of_ble_eq_true rfl⟩ (wM_at_0 ad cy _) rfl rfl rfl rfl (Nat.le_of_ble_eq_true rfl) dX8_isGoal_18 (fun g19 h => ?_)
    refine zz_iload_n K 3 dX8_isGoal_21 rfl rfl ?_
    refine zz_if_lt K 33 dX8_isGoal_22 rfl (fun c20 => ?_) (fun c20 => ?_)
    · have h := (And.left h) c20
      refine zz_sub [0] [(0, .ref (ad 0))] rfl ?_
      exact zu8_isGoal_33 K hret h
    · have h := (And.right h) c20
      refine zz_aload_n K 0 dX8_isGoal_25 rfl rfl ?_
      refine zz_callVi1 K zz_nw_nil [] (zc8_below l D ad cy  g19 _ h) gX8_isGoal_X8_below rfl ⟨rfl, rfl⟩ zds_yX8_below_v ⟨Nat.le_of_ble_eq_true rfl, Nat.le_of_ble_eq_true rfl⟩ (wM_at_0 ad cy _) rfl rfl rfl rfl (Nat.le_of_ble_eq_true rfl) dX8_isGoal_26 (fun r21 h => ?_)
      refine zz_iload_n K 3 dX8_isGoal_29 rfl rfl ?_
      refine zz_icmp_ne K 51 dX8_isGoal_30 rfl (fun c22 => ?_) (fun c22 => ?_)
      · have h := (And.left h) c22
        refine zz_sub [0] [(0, .ref (ad 0))] rfl ?_
        exact zu8_isGoal_51 K hret h
      · have h := (And.right h) c22
        refine zz_sub [0] [(0, .ref (ad 0))] rfl ?_
        exact zu8_isGoal_33 K hret h
  · have h := (And.right h) c17
    refine zz_iconst K dX8_isGoal_10 zci_0 ?_
    exact hret _ _ rfl h _ _ dX8_isGoal_11
set_option maxRecDepth 100000 in
theorem zc8_isGoal (l : Launch) (D : va_G) (ad : Nat → Nat) (cy : Nat → ClassId) (v1 : Int32) (v2 : Int32) (v3 : Int32) (σ : zz_St) (Qp : Int32 → zz_St → Prop) (h : zq8_isGoal v1 v2 v3 σ Qp) : zz_Mi l yX8_isGoal wsX8_isGoal zrm8_isGoal D (tysM cy) (wM ad cy) [] [.ref (ad 0), .int v1, .int v2, .int v3] σ Qp :=
  zz_Mi.of zz_nw_nil (wM_ad ad cy) (by decide +kernel) rfl ⟨rfl, rfl⟩ (Nat.le_of_ble_eq_true rfl) (fun p e s m args below meth c A QW K hret => zu8_isGoal_0 K  hret h)
theorem zin_X8_soonestTo_X8 : ∀ w ∈ wsX80, w ∈ wsX8_soonestTo := fun w h => List.mem_cons_of_mem _ (List.mem_append_right _ h)
theorem zlk_X8_soonestTo_1 : Cond.fieldLink RX8 251 "SolidsRolledModel" "many" "I" ∈ wsX8_soonestTo := List.mem_of_getElem? (i := 1) rfl
theorem zlk_X8_soonestTo_2 : Cond.fieldLink RX8 69 "SolidsRolledModel" "far" "[I" ∈ wsX8_soonestTo := List.mem_of_getElem? (i := 2) rfl
theorem zds_yX8_isGoal_v : yX8_isGoal.cls = RX8 ∧ yX8_isGoal.cls ≠ "java/lang/invoke/MethodHandle" ∧ yX8_isGoal.cls ≠ "java/lang/invoke/VarHandle" ∧ (parseMethodDescriptor yX8_isGoal.desc).map (fun d => d.parameters.length) = some 3 := by decide +kernel
abbrev zrm8_soonestTo : Room := { frames := 3, cells := 0, slots := 0, locals := 64 }
set_option maxHeartbeats 4000000 in
set_option maxRecDepth 100000 in
theorem zu8_soonestTo_2 {p : Program} {l : Launch} {e : Env} {s : State} {m : MethodId} {args : Array Value} {below : List Frame} {meth : Method} {c : Code} {Q : State → Prop} {D : va_G} {A : Nat → Prop} {ad : Nat → Nat} {cy : Nat → ClassId} {v1 : Int32} {v2 : Int32} {v3 : Int32} {σ : zz_St} (K : zz_K p s m args c cX8_soonestTo 4 RX8 wsX8_soonestTo D (tysM cy) A (wM ad cy) []) {Qp : Int32 → zz_St → Prop} (hret : ∀ (r : Int32) (σ2 : zz_St), narrow .int (.int r) = .int r → Qp r σ2 → ∀ (pc : Nat) (lv : List (Nat × Value)), decode cX8_soonestTo pc = .ok (.ireturn, 1) → zz_G p l e zrm8_soonestTo s m args below meth c Q D A (wM ad cy) 4 pc lv [.int r] σ2) (h : zq8_soonestTo_2 v1 v2 v3 σ Qp) : zz_G p l e zrm8_soonestTo s m args below meth c Q D A (wM ad cy) 4 2 [(0, .ref (ad 0)), (1, .int v1), (2, .int v2), (3, .int v3)] [] σ := by
  unfold zq8_soonestTo_2 at h
  obtain ⟨I2, M2, h0, hs⟩ := h
  have key : ∀ (n : Nat) (v3 : Int32) (σ : zz_St), M2 v3 σ < n → I2 v3 σ → zz_G p l e zrm8_soonestTo s m args below meth c Q D A (wM ad cy) 4 2 [(0, .ref (ad 0)), (1, .int v1), (2, .int v2), (3, .int v3)] [] σ := by
    intro n
    induction n with
    | zero => intro v3 σ hlt; exact absurd hlt (Nat.not_lt_zero _)
    | succ n ih =>
      intro v3 σ hlt hI
      have h := hs v3 σ hI
      have hB2 : ∀ (v3' : Int32) (σ' : zz_St), (fun v3' σ' => I2 v3' σ' ∧ M2 v3' σ' < M2 v3 σ) v3' σ' → zz_G p l e zrm8_soonestTo s m args below meth c Q D A (wM ad cy) 4 2 [(0, .ref (ad 0)), (1, .int v1), (2, .int v2), (3, .int v3')] [] σ' := fun v3' σ' hz => ih v3' σ' (Nat.lt_of_lt_of_le hz.2 (Nat.le_of_lt_succ hlt)) hz.1
      refine zz_iload_n K 3 dX8_soonestTo_2 rfl rfl ?_
      refine zz_aload_n K 0 dX8_soonestTo_3 rfl rfl ?_
      refine zg8_27 K zin_X8_soonestTo_X8 zlk_X8_soonestTo_1 dX8_soonestTo_4 ?_
      refine zz_icmp_ge K 33 dX8_soonestTo_7 rfl (fun c5 => ?_) (fun c5 => ?_)
      · have h := (And.left h) c5
        refine zz_bipush K dX8_soonestTo_33 zcb_m9 ?_
        exact hret _ _ rfl h _ _ dX8_soonestTo_35
      · have h := (And.right h) c5
        refine zz_aload_n K 0 dX8_soonestTo_10 rfl rfl ?_
        refine zz_iload_n K 3 dX8_soonestTo_11 rfl rfl ?_
        refine zz_iload_n K 1 dX8_soonestTo_12 rfl rfl ?_
        refine zz_iload_n K 2 dX8_soonestTo_13 rfl rfl ?_
        refine zz_callVi K zz_nw_nil [.int v3, .int v1, .int v2] (zc8_isGoal l D ad cy v3 v1 v2 σ _ h) gX8_soonestTo_X8_isGoal rfl ⟨rfl, rfl⟩ zds_yX8_isGoal_v ⟨Nat.le_of_ble_eq_true rfl, Nat.le_of_ble_eq_true rfl⟩ (wM_at_0 ad cy _) rfl rfl rfl rfl (Nat.le_of_ble_eq_true rfl) dX8_soonestTo_14 (fun r6 g7 h => ?_)
        refine zz_if_eq K 27 dX8_soonestTo_17 rfl (fun c8 => ?_) (fun c8 => ?_)
        · have h := (And.left h) c8
          refine zz_iinc K 3 [(3, .int (v3 + (1 : Int32))), (0, .ref (ad 0)), (1, .int v1), (2, .int v2)] dX8_soonestTo_27 zci_1 rfl (by decide) rfl ?_
          refine zz_goto K 2 dX8_soonestTo_30 rfl ?_
          refine zz_sub [1, 2, 3, 0] [(0, .ref (ad 0)), (1, .int v1), (2, .int v2), (3, .int (v3 + (1 : Int32)))] rfl ?_
          exact hB2 (v3 + (1 : Int32)) g7 h
        · have h := (And.right h) c8
          refine zz_aload_n K 0 dX8_soonestTo_20 rfl rfl ?_
          refine zg8_25 K zin_X8_soonestTo_X8 zlk_X8_soonestTo_2 dX8_soonestTo_21 ?_
          refine zz_iload_n K 3 dX8_soonestTo_24 rfl rfl ?_
          obtain ⟨hin, h⟩ := h
          refine zz_iaload K 0 (wM_at_25 ad cy g7) rfl hin dX8_soonestTo_25 ?_
          exact hret _ _ rfl h _ _ dX8_soonestTo_26
  exact key _ v3 σ (Nat.lt_succ_self _) h0
set_option maxHeartbeats 4000000 in
set_option maxRecDepth 100000 in
theorem zu8_soonestTo_0 {p : Program} {l : Launch} {e : Env} {s : State} {m : MethodId} {args : Array Value} {below : List Frame} {meth : Method} {c : Code} {Q : State → Prop} {D : va_G} {A : Nat → Prop} {ad : Nat → Nat} {cy : Nat → ClassId} {v1 : Int32} {v2 : Int32} {σ : zz_St} (K : zz_K p s m args c cX8_soonestTo 4 RX8 wsX8_soonestTo D (tysM cy) A (wM ad cy) []) {Qp : Int32 → zz_St → Prop} (hret : ∀ (r : Int32) (σ2 : zz_St), narrow .int (.int r) = .int r → Qp r σ2 → ∀ (pc : Nat) (lv : List (Nat × Value)), decode cX8_soonestTo pc = .ok (.ireturn, 1) → zz_G p l e zrm8_soonestTo s m args below meth c Q D A (wM ad cy) 4 pc lv [.int r] σ2) (h : zq8_soonestTo v1 v2 σ Qp) : zz_G p l e zrm8_soonestTo s m args below meth c Q D A (wM ad cy) 4 0 [(0, .ref (ad 0)), (1, .int v1), (2, .int v2)] [] σ := by
  unfold zq8_soonestTo at h
  refine zz_iconst K dX8_soonestTo_0 zci_0 ?_
  refine zz_istore_n K [(3, .int (0 : Int32)), (0, .ref (ad 0)), (1, .int v1), (2, .int v2)] dX8_soonestTo_1 rfl (by decide) rfl ?_
  refine zz_sub [1, 2, 3, 0] [(0, .ref (ad 0)), (1, .int v1), (2, .int v2), (3, .int (0 : Int32))] rfl ?_
  exact zu8_soonestTo_2 K hret h
set_option maxRecDepth 100000 in
theorem zc8_soonestTo (l : Launch) (D : va_G) (ad : Nat → Nat) (cy : Nat → ClassId) (v1 : Int32) (v2 : Int32) (σ : zz_St) (Qp : Int32 → zz_St → Prop) (h : zq8_soonestTo v1 v2 σ Qp) : zz_Mi l yX8_soonestTo wsX8_soonestTo zrm8_soonestTo D (tysM cy) (wM ad cy) [] [.ref (ad 0), .int v1, .int v2] σ Qp :=
  zz_Mi.of zz_nw_nil (wM_ad ad cy) (by decide +kernel) rfl ⟨rfl, rfl⟩ (Nat.le_of_ble_eq_true rfl) (fun p e s m args below meth c A QW K hret => zu8_soonestTo_0 K  hret h)
theorem zds_yX8_isFace_v : yX8_isFace.cls = RX8 ∧ yX8_isFace.cls ≠ "java/lang/invoke/MethodHandle" ∧ yX8_isFace.cls ≠ "java/lang/invoke/VarHandle" ∧ (parseMethodDescriptor yX8_isFace.desc).map (fun d => d.parameters.length) = some 1 := by decide +kernel
abbrev zrm8_areAsked : Room := { frames := 2, cells := 0, slots := 0, locals := 46 }
set_option maxHeartbeats 4000000 in
set_option maxRecDepth 100000 in
theorem zu8_areAsked_0 {p : Program} {l : Launch} {e : Env} {s : State} {m : MethodId} {args : Array Value} {below : List Frame} {meth : Method} {c : Code} {Q : State → Prop} {D : va_G} {A : Nat → Prop} {ad : Nat → Nat} {cy : Nat → ClassId} {v1 : Int32} {v2 : Int32} {σ : zz_St} (K : zz_K p s m args c cX8_areAsked 3 RX8 wsX8_areAsked D (tysM cy) A (wM ad cy) []) {Qp : Int32 → Prop} (hret : ∀ (r : Int32), narrow .boolean (.int r) = .int r → Qp r → ∀ (pc : Nat) (lv : List (Nat × Value)), decode cX8_areAsked pc = .ok (.ireturn, 1) → zz_G p l e zrm8_areAsked s m args below meth c Q D A (wM ad cy) 3 pc lv [.int r] σ) (h : zq8_areAsked v1 v2 σ Qp) : zz_G p l e zrm8_areAsked s m args below meth c Q D A (wM ad cy) 3 0 [(0, .ref (ad 0)), (1, .int v1), (2, .int v2)] [] σ := by
  unfold zq8_areAsked at h
  refine zz_aload_n K 0 dX8_areAsked_0 rfl rfl ?_
  refine zz_iload_n K 1 dX8_areAsked_1 rfl rfl ?_
  refine zz_callVi1 K zz_nw_nil [.int v1] (zc8_isPlace l D ad cy v1 σ _ h) gX8_areAsked_X8_isPlace rfl ⟨rfl, rfl⟩ zds_yX8_isPlace_v ⟨Nat.le_of_ble_eq_true rfl, Nat.le_of_ble_eq_true rfl⟩ (wM_at_0 ad cy _) rfl rfl rfl rfl (Nat.le_of_ble_eq_true rfl) dX8_areAsked_2 (fun r6 h => ?_)
  refine zz_if_eq K 25 dX8_areAsked_5 rfl (fun c7 => ?_) (fun c7 => ?_)
  · have h := (And.left h) c7
    refine zz_iconst K dX8_areAsked_25 zci_0 ?_
    exact hret _ rfl h _ _ dX8_areAsked_26
  · have h := (And.right h) c7
    refine zz_iload_n K 2 dX8_areAsked_8 rfl rfl ?_
    refine zz_iconst K dX8_areAsked_9 zci_m1 ?_
    refine zz_icmp_eq K 21 dX8_areAsked_10 rfl (fun c8 => ?_) (fun c8 => ?_)
    · have h := (And.left h) c8
      refine zz_iconst K dX8_areAsked_21 zci_1 ?_
      refine zz_goto K 26 dX8_areAsked_22 rfl ?_
      exact hret _ rfl h _ _ dX8_areAsked_26
    · have h := (And.right h) c8
      refine zz_aload_n K 0 dX8_areAsked_13 rfl rfl ?_
      refine zz_iload_n K 2 dX8_areAsked_14 rfl rfl ?_
      refine zz_callVi1 K zz_nw_nil [.int v2] (zc8_isFace l D ad cy v2 σ _ h) gX8_areAsked_X8_isFace rfl ⟨rfl, rfl⟩ zds_yX8_isFace_v ⟨Nat.le_of_ble_eq_true rfl, Nat.le_of_ble_eq_true rfl⟩ (wM_at_0 ad cy _) rfl rfl rfl rfl (Nat.le_of_ble_eq_true rfl) dX8_areAsked_15 (fun r9 h => ?_)
      refine zz_if_eq K 25 dX8_areAsked_18 rfl (fun c10 => ?_) (fun c10 => ?_)
      · have h := (And.left h) c10
        refine zz_iconst K dX8_areAsked_25 zci_0 ?_
        exact hret _ rfl h _ _ dX8_areAsked_26
      · have h := (And.right h) c10
        refine zz_iconst K dX8_areAsked_21 zci_1 ?_
        refine zz_goto K 26 dX8_areAsked_22 rfl ?_
        exact hret _ rfl h _ _ dX8_areAsked_26
set_option maxRecDepth 100000 in
theorem zc8_areAsked (l : Launch) (D : va_G) (ad : Nat → Nat) (cy : Nat → ClassId) (v1 : Int32) (v2 : Int32) (σ : zz_St) (Qp : Int32 → Prop) (h : zq8_areAsked v1 v2 σ Qp) : zz_Mi l yX8_areAsked wsX8_areAsked zrm8_areAsked D (tysM cy) (wM ad cy) [] [.ref (ad 0), .int v1, .int v2] σ (fun r σ2 => σ2 = σ ∧ Qp r) :=
  zz_Mi.of zz_nw_nil (wM_ad ad cy) (by decide +kernel) rfl ⟨rfl, rfl⟩ (Nat.le_of_ble_eq_true rfl) (fun p e s m args below meth c A QW K hret => zu8_areAsked_0 K  (fun r hn hq pc lv hd => hret r σ hn ⟨rfl, hq⟩ pc lv hd) h)
theorem zin_X8_soonest_X8 : ∀ w ∈ wsX80, w ∈ wsX8_soonest := fun w h => List.mem_cons_of_mem _ (List.mem_append_right _ h)
theorem zlk_X8_soonest_1 : Cond.fieldLink RX8 38 "SolidsRolledModel" "isThere" "Z" ∈ wsX8_soonest := List.mem_of_getElem? (i := 1) rfl
theorem zds_yX8_soonestTo_v : yX8_soonestTo.cls = RX8 ∧ yX8_soonestTo.cls ≠ "java/lang/invoke/MethodHandle" ∧ yX8_soonestTo.cls ≠ "java/lang/invoke/VarHandle" ∧ (parseMethodDescriptor yX8_soonestTo.desc).map (fun d => d.parameters.length) = some 2 := by decide +kernel
theorem zds_yX8_areAsked_v : yX8_areAsked.cls = RX8 ∧ yX8_areAsked.cls ≠ "java/lang/invoke/MethodHandle" ∧ yX8_areAsked.cls ≠ "java/lang/invoke/VarHandle" ∧ (parseMethodDescriptor yX8_areAsked.desc).map (fun d => d.parameters.length) = some 2 := by decide +kernel
abbrev zrm8_soonest : Room := { frames := 6, cells := 0, slots := 0, locals := 137 }
set_option maxHeartbeats 4000000 in
set_option maxRecDepth 100000 in
theorem zu8_soonest_0 {p : Program} {l : Launch} {e : Env} {s : State} {m : MethodId} {args : Array Value} {below : List Frame} {meth : Method} {c : Code} {Q : State → Prop} {D : va_G} {A : Nat → Prop} {ad : Nat → Nat} {cy : Nat → ClassId} {v1 : Int32} {v2 : Int32} {σ : zz_St} (K : zz_K p s m args c cX8_soonest 3 RX8 wsX8_soonest D (tysM cy) A (wM ad cy) []) {Qp : Int32 → zz_St → Prop} (hret : ∀ (r : Int32) (σ2 : zz_St), narrow .int (.int r) = .int r → Qp r σ2 → ∀ (pc : Nat) (lv : List (Nat × Value)), decode cX8_soonest pc = .ok (.ireturn, 1) → zz_G p l e zrm8_soonest s m args below meth c Q D A (wM ad cy) 3 pc lv [.int r] σ2) (h : zq8_soonest v1 v2 σ Qp) : zz_G p l e zrm8_soonest s m args below meth c Q D A (wM ad cy) 3 0 [(0, .ref (ad 0)), (1, .int v1), (2, .int v2)] [] σ := by
  unfold zq8_soonest at h
  refine zz_aload_n K 0 dX8_soonest_0 rfl rfl ?_
  refine zz_iload_n K 1 dX8_soonest_1 rfl rfl ?_
  refine zz_iload_n K 2 dX8_soonest_2 rfl rfl ?_
  refine zz_callVi1 K zz_nw_nil [.int v1, .int v2] (zc8_areAsked l D ad cy v1 v2 σ _ h) gX8_soonest_X8_areAsked rfl ⟨rfl, rfl⟩ zds_yX8_areAsked_v ⟨Nat.le_of_ble_eq_true rfl, Nat.le_of_ble_eq_true rfl⟩ (wM_at_0 ad cy _) rfl rfl rfl rfl (Nat.le_of_ble_eq_true rfl) dX8_soonest_3 (fun r11 h => ?_)
  refine zz_if_ne K 15 dX8_soonest_6 rfl (fun c12 => ?_) (fun c12 => ?_)
  · have h := (And.left h) c12
    refine zz_aload_n K 0 dX8_soonest_15 rfl rfl ?_
    refine zg8_9 K zin_X8_soonest_X8 zlk_X8_soonest_1 dX8_soonest_16 ?_
    refine zz_if_ne K 29 dX8_soonest_19 rfl (fun c13 => ?_) (fun c13 => ?_)
    · have h := (And.left h) c13
      refine zz_aload_n K 0 dX8_soonest_29 rfl rfl ?_
      refine zz_callVv K zz_nw_nil [] (zc8_goesThrough l D ad cy  σ _ h) gX8_soonest_X8_goesThrough rfl ⟨rfl, rfl⟩ zds_yX8_goesThrough_v ⟨Nat.le_of_ble_eq_true rfl, Nat.le_of_ble_eq_true rfl⟩ (wM_at_0 ad cy _) rfl rfl rfl rfl (Nat.le_of_ble_eq_true rfl) dX8_soonest_30 (fun g14 h => ?_)
      refine zz_aload_n K 0 dX8_soonest_33 rfl rfl ?_
      refine zz_iload_n K 1 dX8_soonest_34 rfl rfl ?_
      refine zz_iload_n K 2 dX8_soonest_35 rfl rfl ?_
      refine zz_callVi K zz_nw_nil [.int v1, .int v2] (zc8_soonestTo l D ad cy v1 v2 g14 _ h) gX8_soonest_X8_soonestTo rfl ⟨rfl, rfl⟩ zds_yX8_soonestTo_v ⟨Nat.le_of_ble_eq_true rfl, Nat.le_of_ble_eq_true rfl⟩ (wM_at_0 ad cy _) rfl rfl rfl rfl (Nat.le_of_ble_eq_true rfl) dX8_soonest_36 (fun r15 g16 h => ?_)
      exact hret _ _ rfl h _ _ dX8_soonest_39
    · have h := (And.right h) c13
      refine zz_aload_n K 0 dX8_soonest_22 rfl rfl ?_
      refine zz_bipush K dX8_soonest_23 zcb_m3 ?_
      refine zz_callVi K zz_nw_nil [.int (-3 : Int32)] (zc8_no l D ad cy (-3 : Int32) σ _ h) gX8_soonest_X8_no rfl ⟨rfl, rfl⟩ zds_yX8_no_v ⟨Nat.le_of_ble_eq_true rfl, Nat.le_of_ble_eq_true rfl⟩ (wM_at_0 ad cy _) rfl rfl rfl rfl (Nat.le_of_ble_eq_true rfl) dX8_soonest_25 (fun r17 g18 h => ?_)
      exact hret _ _ rfl h _ _ dX8_soonest_28
  · have h := (And.right h) c12
    refine zz_aload_n K 0 dX8_soonest_9 rfl rfl ?_
    refine zz_iconst K dX8_soonest_10 zci_m1 ?_
    refine zz_callVi K zz_nw_nil [.int (-1 : Int32)] (zc8_no l D ad cy (-1 : Int32) σ _ h) gX8_soonest_X8_no rfl ⟨rfl, rfl⟩ zds_yX8_no_v ⟨Nat.le_of_ble_eq_true rfl, Nat.le_of_ble_eq_true rfl⟩ (wM_at_0 ad cy _) rfl rfl rfl rfl (Nat.le_of_ble_eq_true rfl) dX8_soonest_11 (fun r19 g20 h => ?_)
    exact hret _ _ rfl h _ _ dX8_soonest_14
set_option maxRecDepth 100000 in
theorem zc8_soonest (l : Launch) (D : va_G) (ad : Nat → Nat) (cy : Nat → ClassId) (v1 : Int32) (v2 : Int32) (σ : zz_St) (Qp : Int32 → zz_St → Prop) (h : zq8_soonest v1 v2 σ Qp) : zz_Mi l yX8_soonest wsX8_soonest zrm8_soonest D (tysM cy) (wM ad cy) [] [.ref (ad 0), .int v1, .int v2] σ Qp :=
  zz_Mi.of zz_nw_nil (wM_ad ad cy) (by decide +kernel) rfl ⟨rfl, rfl⟩ (Nat.le_of_ble_eq_true rfl) (fun p e s m args below meth c A QW K hret => zu8_soonest_0 K  hret h)
theorem zin_X8_wayAt_X8 : ∀ w ∈ wsX80, w ∈ wsX8_wayAt := fun w h => List.mem_cons_of_mem _ (List.mem_append_right _ h)
theorem zlk_X8_wayAt_1 : Cond.fieldLink RX8 251 "SolidsRolledModel" "many" "I" ∈ wsX8_wayAt := List.mem_of_getElem? (i := 1) rfl
theorem zlk_X8_wayAt_2 : Cond.fieldLink RX8 85 "SolidsRolledModel" "isGood" "[Z" ∈ wsX8_wayAt := List.mem_of_getElem? (i := 2) rfl
theorem zlk_X8_wayAt_3 : Cond.fieldLink RX8 69 "SolidsRolledModel" "far" "[I" ∈ wsX8_wayAt := List.mem_of_getElem? (i := 3) rfl
theorem zlk_X8_wayAt_4 : Cond.fieldLink RX8 72 "SolidsRolledModel" "next" "[I" ∈ wsX8_wayAt := List.mem_of_getElem? (i := 4) rfl
abbrev zrm8_wayAt : Room := { frames := 6, cells := 0, slots := 0, locals := 137 }
set_option maxHeartbeats 4000000 in
set_option maxRecDepth 100000 in
theorem zu8_wayAt_166 {p : Program} {l : Launch} {e : Env} {s : State} {m : MethodId} {args : Array Value} {below : List Frame} {meth : Method} {c : Code} {Q : State → Prop} {D : va_G} {A : Nat → Prop} {ad : Nat → Nat} {cy : Nat → ClassId} {v1 : Int32} {v2 : Int32} {v3 : Int32} {v4 : Int32} {v5 : Int32} {v6 : Int32} {s0 : Int32} {s1 : Int32} {σ : zz_St} (K : zz_K p s m args c cX8_wayAt 8 RX8 wsX8_wayAt D (tysM cy) A (wM ad cy) []) {Qp : Int32 → zz_St → Prop} (hret : ∀ (r : Int32) (σ2 : zz_St), narrow .int (.int r) = .int r → Qp r σ2 → ∀ (pc : Nat) (lv : List (Nat × Value)), decode cX8_wayAt pc = .ok (.ireturn, 1) → zz_G p l e zrm8_wayAt s m args below meth c Q D A (wM ad cy) 8 pc lv [.int r] σ2) {B36 : Int32 → zz_St → Prop} (hB36 : ∀ (v5' : Int32) (σ' : zz_St), B36 v5' σ' → zz_G p l e zrm8_wayAt s m args below meth c Q D A (wM ad cy) 8 36 [(0, .ref (ad 0)), (1, .int v1), (2, .int v2), (3, .int v3), (4, .int v4), (5, .int v5')] [] σ') {B79 : Int32 → zz_St → Prop} (hB79 : ∀ (v6' : Int32) (σ' : zz_St), B79 v6' σ' → zz_G p l e zrm8_wayAt s m args below meth c Q D A (wM ad cy) 8 79 [(0, .ref (ad 0)), (1, .int v1), (2, .int v2), (3, .int v3), (4, .int v4), (5, .int v5), (6, .int v6')] [] σ') (h : zq8_wayAt_166 v1 v2 v3 v4 v5 v6 s0 s1 σ Qp B36 B79) : zz_G p l e zrm8_wayAt s m args below meth c Q D A (wM ad cy) 8 166 [(0, .ref (ad 0)), (1, .int v1), (2, .int v2), (3, .int v3), (4, .int v4), (5, .int v5), (6, .int v6)] [.int s0, .int s1, .ref (ad 33)] σ := by
  unfold zq8_wayAt_166 at h
  obtain ⟨hin, h⟩ := h
  refine zz_bastore K 2 (σ2 := zz_A σ 33 (upd ((σ).2.1 33) s1.toNatClampNeg (vp_nar .boolean s0))) (wM_at_33 ad cy σ) (wM_set_33 ad cy σ _) rfl hin dX8_wayAt_166 ?_
  refine zz_nms (fun g26 eg26 => ?_)
  have h := h g26 eg26
  refine zz_iinc K 6 [(6, .int (v6 + (1 : Int32))), (0, .ref (ad 0)), (1, .int v1), (2, .int v2), (3, .int v3), (4, .int v4), (5, .int v5)] dX8_wayAt_167 zci_1 rfl (by decide) rfl ?_
  refine zz_goto K 79 dX8_wayAt_170 rfl ?_
  refine zz_sub [1, 2, 3, 4, 5, 6, 0] [(0, .ref (ad 0)), (1, .int v1), (2, .int v2), (3, .int v3), (4, .int v4), (5, .int v5), (6, .int (v6 + (1 : Int32)))] rfl ?_
  exact hB79 (v6 + (1 : Int32)) g26 h
set_option maxHeartbeats 4000000 in
set_option maxRecDepth 100000 in
theorem zu8_wayAt_165 {p : Program} {l : Launch} {e : Env} {s : State} {m : MethodId} {args : Array Value} {below : List Frame} {meth : Method} {c : Code} {Q : State → Prop} {D : va_G} {A : Nat → Prop} {ad : Nat → Nat} {cy : Nat → ClassId} {v1 : Int32} {v2 : Int32} {v3 : Int32} {v4 : Int32} {v5 : Int32} {v6 : Int32} {s0 : Int32} {σ : zz_St} (K : zz_K p s m args c cX8_wayAt 8 RX8 wsX8_wayAt D (tysM cy) A (wM ad cy) []) {Qp : Int32 → zz_St → Prop} (hret : ∀ (r : Int32) (σ2 : zz_St), narrow .int (.int r) = .int r → Qp r σ2 → ∀ (pc : Nat) (lv : List (Nat × Value)), decode cX8_wayAt pc = .ok (.ireturn, 1) → zz_G p l e zrm8_wayAt s m args below meth c Q D A (wM ad cy) 8 pc lv [.int r] σ2) {B36 : Int32 → zz_St → Prop} (hB36 : ∀ (v5' : Int32) (σ' : zz_St), B36 v5' σ' → zz_G p l e zrm8_wayAt s m args below meth c Q D A (wM ad cy) 8 36 [(0, .ref (ad 0)), (1, .int v1), (2, .int v2), (3, .int v3), (4, .int v4), (5, .int v5')] [] σ') {B79 : Int32 → zz_St → Prop} (hB79 : ∀ (v6' : Int32) (σ' : zz_St), B79 v6' σ' → zz_G p l e zrm8_wayAt s m args below meth c Q D A (wM ad cy) 8 79 [(0, .ref (ad 0)), (1, .int v1), (2, .int v2), (3, .int v3), (4, .int v4), (5, .int v5), (6, .int v6')] [] σ') (h : zq8_wayAt_165 v1 v2 v3 v4 v5 v6 s0 σ Qp B36 B79) : zz_G p l e zrm8_wayAt s m args below meth c Q D A (wM ad cy) 8 165 [(0, .ref (ad 0)), (1, .int v1), (2, .int v2), (3, .int v3), (4, .int v4), (5, .int v5), (6, .int v6)] [.int s0, .ref (ad 33)] σ := by
  unfold zq8_wayAt_165 at h
  refine zz_iconst K dX8_wayAt_165 zci_0 ?_
  exact zu8_wayAt_166 K hret hB36 hB79 h
set_option maxHeartbeats 4000000 in
set_option maxRecDepth 100000 in
theorem zu8_wayAt_173 {p : Program} {l : Launch} {e : Env} {s : State} {m : MethodId} {args : Array Value} {below : List Frame} {meth : Method} {c : Code} {Q : State → Prop} {D : va_G} {A : Nat → Prop} {ad : Nat → Nat} {cy : Nat → ClassId} {v1 : Int32} {v2 : Int32} {v3 : Int32} {v4 : Int32} {v5 : Int32} {σ : zz_St} (K : zz_K p s m args c cX8_wayAt 8 RX8 wsX8_wayAt D (tysM cy) A (wM ad cy) []) {Qp : Int32 → zz_St → Prop} (hret : ∀ (r : Int32) (σ2 : zz_St), narrow .int (.int r) = .int r → Qp r σ2 → ∀ (pc : Nat) (lv : List (Nat × Value)), decode cX8_wayAt pc = .ok (.ireturn, 1) → zz_G p l e zrm8_wayAt s m args below meth c Q D A (wM ad cy) 8 pc lv [.int r] σ2) {B36 : Int32 → zz_St → Prop} (hB36 : ∀ (v5' : Int32) (σ' : zz_St), B36 v5' σ' → zz_G p l e zrm8_wayAt s m args below meth c Q D A (wM ad cy) 8 36 [(0, .ref (ad 0)), (1, .int v1), (2, .int v2), (3, .int v3), (4, .int v4), (5, .int v5')] [] σ') (h : zq8_wayAt_173 v1 v2 v3 v4 v5 σ Qp B36) : zz_G p l e zrm8_wayAt s m args below meth c Q D A (wM ad cy) 8 173 [(0, .ref (ad 0)), (1, .int v1), (2, .int v2), (3, .int v3), (4, .int v4), (5, .int v5)] [] σ := by
  unfold zq8_wayAt_173 at h
  refine zz_iinc K 5 [(5, .int (v5 + (-1 : Int32))), (0, .ref (ad 0)), (1, .int v1), (2, .int v2), (3, .int v3), (4, .int v4)] dX8_wayAt_173 zci_m1 rfl (by decide) rfl ?_
  refine zz_goto K 36 dX8_wayAt_176 rfl ?_
  refine zz_sub [1, 2, 3, 4, 5, 0] [(0, .ref (ad 0)), (1, .int v1), (2, .int v2), (3, .int v3), (4, .int v4), (5, .int (v5 + (-1 : Int32)))] rfl ?_
  exact hB36 (v5 + (-1 : Int32)) σ h
set_option maxHeartbeats 4000000 in
set_option maxRecDepth 100000 in
theorem zu8_wayAt_79 {p : Program} {l : Launch} {e : Env} {s : State} {m : MethodId} {args : Array Value} {below : List Frame} {meth : Method} {c : Code} {Q : State → Prop} {D : va_G} {A : Nat → Prop} {ad : Nat → Nat} {cy : Nat → ClassId} {v1 : Int32} {v2 : Int32} {v3 : Int32} {v4 : Int32} {v5 : Int32} {v6 : Int32} {σ : zz_St} (K : zz_K p s m args c cX8_wayAt 8 RX8 wsX8_wayAt D (tysM cy) A (wM ad cy) []) {Qp : Int32 → zz_St → Prop} (hret : ∀ (r : Int32) (σ2 : zz_St), narrow .int (.int r) = .int r → Qp r σ2 → ∀ (pc : Nat) (lv : List (Nat × Value)), decode cX8_wayAt pc = .ok (.ireturn, 1) → zz_G p l e zrm8_wayAt s m args below meth c Q D A (wM ad cy) 8 pc lv [.int r] σ2) {B36 : Int32 → zz_St → Prop} (hB36 : ∀ (v5' : Int32) (σ' : zz_St), B36 v5' σ' → zz_G p l e zrm8_wayAt s m args below meth c Q D A (wM ad cy) 8 36 [(0, .ref (ad 0)), (1, .int v1), (2, .int v2), (3, .int v3), (4, .int v4), (5, .int v5')] [] σ') (h : zq8_wayAt_79 v1 v2 v3 v4 v5 v6 σ Qp B36) : zz_G p l e zrm8_wayAt s m args below meth c Q D A (wM ad cy) 8 79 [(0, .ref (ad 0)), (1, .int v1), (2, .int v2), (3, .int v3), (4, .int v4), (5, .int v5), (6, .int v6)] [] σ := by
  unfold zq8_wayAt_79 at h
  obtain ⟨I79, M79, h0, hs⟩ := h
  have key : ∀ (n : Nat) (v6 : Int32) (σ : zz_St), M79 v6 σ < n → I79 v6 σ → zz_G p l e zrm8_wayAt s m args below meth c Q D A (wM ad cy) 8 79 [(0, .ref (ad 0)), (1, .int v1), (2, .int v2), (3, .int v3), (4, .int v4), (5, .int v5), (6, .int v6)] [] σ := by
    intro n
    induction n with
    | zero => intro v6 σ hlt; exact absurd hlt (Nat.not_lt_zero _)
    | succ n ih =>
      intro v6 σ hlt hI
      have h := hs v6 σ hI
      have hB79 : ∀ (v6' : Int32) (σ' : zz_St), (fun v6' σ' => I79 v6' σ' ∧ M79 v6' σ' < M79 v6 σ) v6' σ' → zz_G p l e zrm8_wayAt s m args below meth c Q D A (wM ad cy) 8 79 [(0, .ref (ad 0)), (1, .int v1), (2, .int v2), (3, .int v3), (4, .int v4), (5, .int v5), (6, .int v6')] [] σ' := fun v6' σ' hz => ih v6' σ' (Nat.lt_of_lt_of_le hz.2 (Nat.le_of_lt_succ hlt)) hz.1
      refine zz_iload K 6 dX8_wayAt_79 rfl ?_
      refine zz_iconst K dX8_wayAt_81 zci_4 ?_
      refine zz_icmp_ge K 173 dX8_wayAt_82 rfl (fun c27 => ?_) (fun c27 => ?_)
      · have h := (And.left h) c27
        refine zz_sub [0, 1, 2, 3, 4, 5] [(0, .ref (ad 0)), (1, .int v1), (2, .int v2), (3, .int v3), (4, .int v4), (5, .int v5)] rfl ?_
        exact zu8_wayAt_173 K hret hB36 h
      · have h := (And.right h) c27
        refine zz_aload_n K 0 dX8_wayAt_85 rfl rfl ?_
        refine zg8_33 K zin_X8_wayAt_X8 zlk_X8_wayAt_2 dX8_wayAt_86 ?_
        refine zz_iload K 5 dX8_wayAt_89 rfl ?_
        obtain ⟨hin, h⟩ := h
        refine zz_baload K 2 (wM_at_33 ad cy σ) rfl hin dX8_wayAt_91 ?_
        refine zz_if_ne K 173 dX8_wayAt_92 rfl (fun c28 => ?_) (fun c28 => ?_)
        · have h := (And.left h) c28
          refine zz_sub [0, 1, 2, 3, 4, 5] [(0, .ref (ad 0)), (1, .int v1), (2, .int v2), (3, .int v3), (4, .int v4), (5, .int v5)] rfl ?_
          exact zu8_wayAt_173 K hret hB36 h
        · have h := (And.right h) c28
          refine zz_aload_n K 0 dX8_wayAt_95 rfl rfl ?_
          refine zg8_25 K zin_X8_wayAt_X8 zlk_X8_wayAt_3 dX8_wayAt_96 ?_
          refine zz_iload K 5 dX8_wayAt_99 rfl ?_
          obtain ⟨hin, h⟩ := h
          refine zz_iaload K 0 (wM_at_25 ad cy σ) rfl hin dX8_wayAt_101 ?_
          refine zz_iload K 4 dX8_wayAt_102 rfl ?_
          refine zz_icmp_ge K 173 dX8_wayAt_104 rfl (fun c29 => ?_) (fun c29 => ?_)
          · have h := (And.left h) c29
            refine zz_sub [0, 1, 2, 3, 4, 5] [(0, .ref (ad 0)), (1, .int v1), (2, .int v2), (3, .int v3), (4, .int v4), (5, .int v5)] rfl ?_
            exact zu8_wayAt_173 K hret hB36 h
          · have h := (And.right h) c29
            refine zz_aload_n K 0 dX8_wayAt_107 rfl rfl ?_
            refine zg8_26 K zin_X8_wayAt_X8 zlk_X8_wayAt_4 dX8_wayAt_108 ?_
            refine zz_iconst K dX8_wayAt_111 zci_4 ?_
            refine zz_iload K 5 dX8_wayAt_112 rfl ?_
            refine zz_imul K dX8_wayAt_114 ?_
            refine zz_iload K 6 dX8_wayAt_115 rfl ?_
            refine zz_iadd K dX8_wayAt_117 ?_
            obtain ⟨hin, h⟩ := h
            refine zz_iaload K 0 (wM_at_26 ad cy σ) rfl hin dX8_wayAt_118 ?_
            refine zz_nmi (fun x30 ex30 => ?_)
            have h := h x30 ex30
            refine zz_istore K [(7, .int x30), (0, .ref (ad 0)), (1, .int v1), (2, .int v2), (3, .int v3), (4, .int v4), (5, .int v5), (6, .int v6)] dX8_wayAt_119 (by decide) rfl ?_
            refine zz_aload_n K 1 dX8_wayAt_121 rfl rfl ?_
            refine zg8_33 K zin_X8_wayAt_X8 zlk_X8_wayAt_2 dX8_wayAt_122 ?_
            refine zz_iload K 6 dX8_wayAt_125 rfl ?_
            refine zz_iload K 0 dX8_wayAt_127 rfl ?_
            refine zz_if_lt K 165 dX8_wayAt_129 rfl (fun c31 => ?_) (fun c31 => ?_)
            · have h := (And.left h) c31
              refine zz_sub [1, 2, 3, 4, 5, 6, 7] [(0, .ref (ad 0)), (1, .int v1), (2, .int v2), (3, .int v3), (4, .int v4), (5, .int v5), (6, .int v6)] rfl ?_
              exact zu8_wayAt_165 K hret hB36 hB79 h
            · have h := (And.right h) c31
              refine zz_aload_n K 1 dX8_wayAt_132 rfl rfl ?_
              refine zg8_25 K zin_X8_wayAt_X8 zlk_X8_wayAt_3 dX8_wayAt_133 ?_
              refine zz_iload K 0 dX8_wayAt_136 rfl ?_
              obtain ⟨hin, h⟩ := h
              refine zz_iaload K 0 (wM_at_25 ad cy σ) rfl hin dX8_wayAt_138 ?_
              refine zz_aload_n K 1 dX8_wayAt_139 rfl rfl ?_
              refine zg8_25 K zin_X8_wayAt_X8 zlk_X8_wayAt_3 dX8_wayAt_140 ?_
              refine zz_iload K 6 dX8_wayAt_143 rfl ?_
              obtain ⟨hin, h⟩ := h
              refine zz_iaload K 0 (wM_at_25 ad cy σ) rfl hin dX8_wayAt_145 ?_
              refine zz_iconst K dX8_wayAt_146 zci_1 ?_
              refine zz_iadd K dX8_wayAt_147 ?_
              refine zz_icmp_ne K 165 dX8_wayAt_148 rfl (fun c32 => ?_) (fun c32 => ?_)
              · have h := (And.left h) c32
                refine zz_sub [1, 2, 3, 4, 5, 6, 7] [(0, .ref (ad 0)), (1, .int v1), (2, .int v2), (3, .int v3), (4, .int v4), (5, .int v5), (6, .int v6)] rfl ?_
                exact zu8_wayAt_165 K hret hB36 hB79 h
              · have h := (And.right h) c32
                refine zz_aload_n K 1 dX8_wayAt_151 rfl rfl ?_
                refine zg8_33 K zin_X8_wayAt_X8 zlk_X8_wayAt_2 dX8_wayAt_152 ?_
                refine zz_iload K 0 dX8_wayAt_155 rfl ?_
                obtain ⟨hin, h⟩ := h
                refine zz_baload K 2 (wM_at_33 ad cy σ) rfl hin dX8_wayAt_157 ?_
                refine zz_if_eq K 165 dX8_wayAt_158 rfl (fun c33 => ?_) (fun c33 => ?_)
                · have h := (And.left h) c33
                  refine zz_sub [1, 2, 3, 4, 5, 6, 7] [(0, .ref (ad 0)), (1, .int v1), (2, .int v2), (3, .int v3), (4, .int v4), (5, .int v5), (6, .int v6)] rfl ?_
                  exact zu8_wayAt_165 K hret hB36 hB79 h
                · have h := (And.right h) c33
                  refine zz_iconst K dX8_wayAt_161 zci_1 ?_
                  refine zz_goto K 166 dX8_wayAt_162 rfl ?_
                  refine zz_sub [1, 2, 3, 4, 5, 6, 7] [(0, .ref (ad 0)), (1, .int v1), (2, .int v2), (3, .int v3), (4, .int v4), (5, .int v5), (6, .int v6)] rfl ?_
                  exact zu8_wayAt_166 K hret hB36 hB79 h
  exact key _ v6 σ (Nat.lt_succ_self _) h0
set_option maxHeartbeats 4000000 in
set_option maxRecDepth 100000 in
theorem zu8_wayAt_75 {p : Program} {l : Launch} {e : Env} {s : State} {m : MethodId} {args : Array Value} {below : List Frame} {meth : Method} {c : Code} {Q : State → Prop} {D : va_G} {A : Nat → Prop} {ad : Nat → Nat} {cy : Nat → ClassId} {v1 : Int32} {v2 : Int32} {v3 : Int32} {v4 : Int32} {v5 : Int32} {s0 : Int32} {s1 : Int32} {σ : zz_St} (K : zz_K p s m args c cX8_wayAt 8 RX8 wsX8_wayAt D (tysM cy) A (wM ad cy) []) {Qp : Int32 → zz_St → Prop} (hret : ∀ (r : Int32) (σ2 : zz_St), narrow .int (.int r) = .int r → Qp r σ2 → ∀ (pc : Nat) (lv : List (Nat × Value)), decode cX8_wayAt pc = .ok (.ireturn, 1) → zz_G p l e zrm8_wayAt s m args below meth c Q D A (wM ad cy) 8 pc lv [.int r] σ2) {B36 : Int32 → zz_St → Prop} (hB36 : ∀ (v5' : Int32) (σ' : zz_St), B36 v5' σ' → zz_G p l e zrm8_wayAt s m args below meth c Q D A (wM ad cy) 8 36 [(0, .ref (ad 0)), (1, .int v1), (2, .int v2), (3, .int v3), (4, .int v4), (5, .int v5')] [] σ') (h : zq8_wayAt_75 v1 v2 v3 v4 v5 s0 s1 σ Qp B36) : zz_G p l e zrm8_wayAt s m args below meth c Q D A (wM ad cy) 8 75 [(0, .ref (ad 0)), (1, .int v1), (2, .int v2), (3, .int v3), (4, .int v4), (5, .int v5)] [.int s0, .int s1, .ref (ad 33)] σ := by
  unfold zq8_wayAt_75 at h
  obtain ⟨hin, h⟩ := h
  refine zz_bastore K 2 (σ2 := zz_A σ 33 (upd ((σ).2.1 33) s1.toNatClampNeg (vp_nar .boolean s0))) (wM_at_33 ad cy σ) (wM_set_33 ad cy σ _) rfl hin dX8_wayAt_75 ?_
  refine zz_nms (fun g34 eg34 => ?_)
  have h := h g34 eg34
  refine zz_iconst K dX8_wayAt_76 zci_0 ?_
  refine zz_istore K [(6, .int (0 : Int32)), (0, .ref (ad 0)), (1, .int v1), (2, .int v2), (3, .int v3), (4, .int v4), (5, .int v5)] dX8_wayAt_77 (by decide) rfl ?_
  refine zz_sub [1, 2, 3, 4, 5, 6, 0] [(0, .ref (ad 0)), (1, .int v1), (2, .int v2), (3, .int v3), (4, .int v4), (5, .int v5), (6, .int (0 : Int32))] rfl ?_
  exact zu8_wayAt_79 K hret hB36 h
set_option maxHeartbeats 4000000 in
set_option maxRecDepth 100000 in
theorem zu8_wayAt_74 {p : Program} {l : Launch} {e : Env} {s : State} {m : MethodId} {args : Array Value} {below : List Frame} {meth : Method} {c : Code} {Q : State → Prop} {D : va_G} {A : Nat → Prop} {ad : Nat → Nat} {cy : Nat → ClassId} {v1 : Int32} {v2 : Int32} {v3 : Int32} {v4 : Int32} {v5 : Int32} {s0 : Int32} {σ : zz_St} (K : zz_K p s m args c cX8_wayAt 8 RX8 wsX8_wayAt D (tysM cy) A (wM ad cy) []) {Qp : Int32 → zz_St → Prop} (hret : ∀ (r : Int32) (σ2 : zz_St), narrow .int (.int r) = .int r → Qp r σ2 → ∀ (pc : Nat) (lv : List (Nat × Value)), decode cX8_wayAt pc = .ok (.ireturn, 1) → zz_G p l e zrm8_wayAt s m args below meth c Q D A (wM ad cy) 8 pc lv [.int r] σ2) {B36 : Int32 → zz_St → Prop} (hB36 : ∀ (v5' : Int32) (σ' : zz_St), B36 v5' σ' → zz_G p l e zrm8_wayAt s m args below meth c Q D A (wM ad cy) 8 36 [(0, .ref (ad 0)), (1, .int v1), (2, .int v2), (3, .int v3), (4, .int v4), (5, .int v5')] [] σ') (h : zq8_wayAt_74 v1 v2 v3 v4 v5 s0 σ Qp B36) : zz_G p l e zrm8_wayAt s m args below meth c Q D A (wM ad cy) 8 74 [(0, .ref (ad 0)), (1, .int v1), (2, .int v2), (3, .int v3), (4, .int v4), (5, .int v5)] [.int s0, .ref (ad 33)] σ := by
  unfold zq8_wayAt_74 at h
  refine zz_iconst K dX8_wayAt_74 zci_0 ?_
  exact zu8_wayAt_75 K hret hB36 h
set_option maxHeartbeats 4000000 in
set_option maxRecDepth 100000 in
theorem zu8_wayAt_261 {p : Program} {l : Launch} {e : Env} {s : State} {m : MethodId} {args : Array Value} {below : List Frame} {meth : Method} {c : Code} {Q : State → Prop} {D : va_G} {A : Nat → Prop} {ad : Nat → Nat} {cy : Nat → ClassId} {v3 : Int32} {v5 : Int32} {v6 : Int32} {v7 : Int32} {σ : zz_St} (K : zz_K p s m args c cX8_wayAt 8 RX8 wsX8_wayAt D (tysM cy) A (wM ad cy) []) {Qp : Int32 → zz_St → Prop} (hret : ∀ (r : Int32) (σ2 : zz_St), narrow .int (.int r) = .int r → Qp r σ2 → ∀ (pc : Nat) (lv : List (Nat × Value)), decode cX8_wayAt pc = .ok (.ireturn, 1) → zz_G p l e zrm8_wayAt s m args below meth c Q D A (wM ad cy) 8 pc lv [.int r] σ2) {B188 : Int32 → Int32 → Int32 → Prop} (hB188 : ∀ (v5' : Int32) (v6' : Int32) (v7' : Int32), B188 v5' v6' v7' → zz_G p l e zrm8_wayAt s m args below meth c Q D A (wM ad cy) 8 188 [(0, .ref (ad 0)), (3, .int v3), (5, .int v5'), (6, .int v6'), (7, .int v7')] [] σ) {B197 : Int32 → Prop} (hB197 : ∀ (v6' : Int32), B197 v6' → zz_G p l e zrm8_wayAt s m args below meth c Q D A (wM ad cy) 8 197 [(0, .ref (ad 0)), (3, .int v3), (5, .int v5), (6, .int v6'), (7, .int v7)] [] σ) (h : zq8_wayAt_261 v3 v5 v6 v7 σ Qp B188 B197) : zz_G p l e zrm8_wayAt s m args below meth c Q D A (wM ad cy) 8 261 [(0, .ref (ad 0)), (3, .int v3), (5, .int v5), (6, .int v6), (7, .int v7)] [] σ := by
  unfold zq8_wayAt_261 at h
  refine zz_iinc K 3 [(6, .int (v6 + (1 : Int32))), (0, .ref (ad 0)), (3, .int v3), (5, .int v5), (7, .int v7)] dX8_wayAt_261 zci_1 rfl (by decide) rfl ?_
  refine zz_goto K 197 dX8_wayAt_264 rfl ?_
  refine zz_sub [1, 2, 3, 0, 4] [(0, .ref (ad 0)), (3, .int v3), (5, .int v5), (6, .int (v6 + (1 : Int32))), (7, .int v7)] rfl ?_
  exact hB197 (v6 + (1 : Int32)) h
set_option maxHeartbeats 4000000 in
set_option maxRecDepth 100000 in
theorem zu8_wayAt_197 {p : Program} {l : Launch} {e : Env} {s : State} {m : MethodId} {args : Array Value} {below : List Frame} {meth : Method} {c : Code} {Q : State → Prop} {D : va_G} {A : Nat → Prop} {ad : Nat → Nat} {cy : Nat → ClassId} {v3 : Int32} {v5 : Int32} {v6 : Int32} {v7 : Int32} {σ : zz_St} (K : zz_K p s m args c cX8_wayAt 8 RX8 wsX8_wayAt D (tysM cy) A (wM ad cy) []) {Qp : Int32 → zz_St → Prop} (hret : ∀ (r : Int32) (σ2 : zz_St), narrow .int (.int r) = .int r → Qp r σ2 → ∀ (pc : Nat) (lv : List (Nat × Value)), decode cX8_wayAt pc = .ok (.ireturn, 1) → zz_G p l e zrm8_wayAt s m args below meth c Q D A (wM ad cy) 8 pc lv [.int r] σ2) {B188 : Int32 → Int32 → Int32 → Prop} (hB188 : ∀ (v5' : Int32) (v6' : Int32) (v7' : Int32), B188 v5' v6' v7' → zz_G p l e zrm8_wayAt s m args below meth c Q D A (wM ad cy) 8 188 [(0, .ref (ad 0)), (3, .int v3), (5, .int v5'), (6, .int v6'), (7, .int v7')] [] σ) (h : zq8_wayAt_197 v3 v5 v6 v7 σ Qp B188) : zz_G p l e zrm8_wayAt s m args below meth c Q D A (wM ad cy) 8 197 [(0, .ref (ad 0)), (3, .int v3), (5, .int v5), (6, .int v6), (7, .int v7)] [] σ := by
  unfold zq8_wayAt_197 at h
  obtain ⟨I197, M197, h0, hs⟩ := h
  have key : ∀ (n : Nat) (v6 : Int32), M197 v6 < n → I197 v6 → zz_G p l e zrm8_wayAt s m args below meth c Q D A (wM ad cy) 8 197 [(0, .ref (ad 0)), (3, .int v3), (5, .int v5), (6, .int v6), (7, .int v7)] [] σ := by
    intro n
    induction n with
    | zero => intro v6 hlt; exact absurd hlt (Nat.not_lt_zero _)
    | succ n ih =>
      intro v6 hlt hI
      have h := hs v6 hI
      have hB197 : ∀ (v6' : Int32), (fun v6' => I197 v6' ∧ M197 v6' < M197 v6) v6' → zz_G p l e zrm8_wayAt s m args below meth c Q D A (wM ad cy) 8 197 [(0, .ref (ad 0)), (3, .int v3), (5, .int v5), (6, .int v6'), (7, .int v7)] [] σ := fun v6' hz => ih v6' (Nat.lt_of_lt_of_le hz.2 (Nat.le_of_lt_succ hlt)) hz.1
      refine zz_aload_n K 0 dX8_wayAt_197 rfl rfl ?_
      refine zg8_26 K zin_X8_wayAt_X8 zlk_X8_wayAt_4 dX8_wayAt_198 ?_
      refine zz_iconst K dX8_wayAt_201 zci_4 ?_
      refine zz_iload K 2 dX8_wayAt_202 rfl ?_
      refine zz_imul K dX8_wayAt_204 ?_
      refine zz_iload K 3 dX8_wayAt_205 rfl ?_
      refine zz_iadd K dX8_wayAt_207 ?_
      obtain ⟨hin, h⟩ := h
      refine zz_iaload K 0 (wM_at_26 ad cy σ) rfl hin dX8_wayAt_208 ?_
      refine zz_if_lt K 261 dX8_wayAt_209 rfl (fun c35 => ?_) (fun c35 => ?_)
      · have h := (And.left h) c35
        exact zu8_wayAt_261 K hret hB188 hB197 h
      · have h := (And.right h) c35
        refine zz_aload_n K 0 dX8_wayAt_212 rfl rfl ?_
        refine zg8_25 K zin_X8_wayAt_X8 zlk_X8_wayAt_3 dX8_wayAt_213 ?_
        refine zz_aload_n K 0 dX8_wayAt_216 rfl rfl ?_
        refine zg8_26 K zin_X8_wayAt_X8 zlk_X8_wayAt_4 dX8_wayAt_217 ?_
        refine zz_iconst K dX8_wayAt_220 zci_4 ?_
        refine zz_iload K 2 dX8_wayAt_221 rfl ?_
        refine zz_imul K dX8_wayAt_223 ?_
        refine zz_iload K 3 dX8_wayAt_224 rfl ?_
        refine zz_iadd K dX8_wayAt_226 ?_
        obtain ⟨hin, h⟩ := h
        refine zz_iaload K 0 (wM_at_26 ad cy σ) rfl hin dX8_wayAt_227 ?_
        obtain ⟨hin, h⟩ := h
        refine zz_iaload K 0 (wM_at_25 ad cy σ) rfl hin dX8_wayAt_228 ?_
        refine zz_aload_n K 0 dX8_wayAt_229 rfl rfl ?_
        refine zg8_25 K zin_X8_wayAt_X8 zlk_X8_wayAt_3 dX8_wayAt_230 ?_
        refine zz_iload K 2 dX8_wayAt_233 rfl ?_
        obtain ⟨hin, h⟩ := h
        refine zz_iaload K 0 (wM_at_25 ad cy σ) rfl hin dX8_wayAt_235 ?_
        refine zz_iconst K dX8_wayAt_236 zci_1 ?_
        refine zz_iadd K dX8_wayAt_237 ?_
        refine zz_icmp_ne K 261 dX8_wayAt_238 rfl (fun c36 => ?_) (fun c36 => ?_)
        · have h := (And.left h) c36
          exact zu8_wayAt_261 K hret hB188 hB197 h
        · have h := (And.right h) c36
          refine zz_aload_n K 0 dX8_wayAt_241 rfl rfl ?_
          refine zg8_33 K zin_X8_wayAt_X8 zlk_X8_wayAt_2 dX8_wayAt_242 ?_
          refine zz_aload_n K 0 dX8_wayAt_245 rfl rfl ?_
          refine zg8_26 K zin_X8_wayAt_X8 zlk_X8_wayAt_4 dX8_wayAt_246 ?_
          refine zz_iconst K dX8_wayAt_249 zci_4 ?_
          refine zz_iload K 2 dX8_wayAt_250 rfl ?_
          refine zz_imul K dX8_wayAt_252 ?_
          refine zz_iload K 3 dX8_wayAt_253 rfl ?_
          refine zz_iadd K dX8_wayAt_255 ?_
          obtain ⟨hin, h⟩ := h
          refine zz_iaload K 0 (wM_at_26 ad cy σ) rfl hin dX8_wayAt_256 ?_
          obtain ⟨hin, h⟩ := h
          refine zz_baload K 2 (wM_at_33 ad cy σ) rfl hin dX8_wayAt_257 ?_
          refine zz_if_ne K 267 dX8_wayAt_258 rfl (fun c37 => ?_) (fun c37 => ?_)
          · have h := (And.left h) c37
            refine zz_aload_n K 0 dX8_wayAt_267 rfl rfl ?_
            refine zg8_26 K zin_X8_wayAt_X8 zlk_X8_wayAt_4 dX8_wayAt_268 ?_
            refine zz_iconst K dX8_wayAt_271 zci_4 ?_
            refine zz_iload K 2 dX8_wayAt_272 rfl ?_
            refine zz_imul K dX8_wayAt_274 ?_
            refine zz_iload K 3 dX8_wayAt_275 rfl ?_
            refine zz_iadd K dX8_wayAt_277 ?_
            obtain ⟨hin, h⟩ := h
            refine zz_iaload K 0 (wM_at_26 ad cy σ) rfl hin dX8_wayAt_278 ?_
            refine zz_nmi (fun x38 ex38 => ?_)
            have h := h x38 ex38
            refine zz_istore K [(5, .int x38), (0, .ref (ad 0)), (3, .int v3), (6, .int v6), (7, .int v7)] dX8_wayAt_279 (by decide) rfl ?_
            refine zz_iinc K 4 [(7, .int (v7 + (1 : Int32))), (5, .int x38), (0, .ref (ad 0)), (3, .int v3), (6, .int v6)] dX8_wayAt_281 zci_1 rfl (by decide) rfl ?_
            refine zz_goto K 188 dX8_wayAt_284 rfl ?_
            refine zz_sub [2, 3, 1, 4, 0] [(0, .ref (ad 0)), (3, .int v3), (5, .int x38), (6, .int v6), (7, .int (v7 + (1 : Int32)))] rfl ?_
            exact hB188 x38 v6 (v7 + (1 : Int32)) h
          · have h := (And.right h) c37
            exact zu8_wayAt_261 K hret hB188 hB197 h
  exact key _ v6 (Nat.lt_succ_self _) h0
set_option maxHeartbeats 4000000 in
set_option maxRecDepth 100000 in
theorem zu8_wayAt_188 {p : Program} {l : Launch} {e : Env} {s : State} {m : MethodId} {args : Array Value} {below : List Frame} {meth : Method} {c : Code} {Q : State → Prop} {D : va_G} {A : Nat → Prop} {ad : Nat → Nat} {cy : Nat → ClassId} {v3 : Int32} {v5 : Int32} {v6 : Int32} {v7 : Int32} {σ : zz_St} (K : zz_K p s m args c cX8_wayAt 8 RX8 wsX8_wayAt D (tysM cy) A (wM ad cy) []) {Qp : Int32 → zz_St → Prop} (hret : ∀ (r : Int32) (σ2 : zz_St), narrow .int (.int r) = .int r → Qp r σ2 → ∀ (pc : Nat) (lv : List (Nat × Value)), decode cX8_wayAt pc = .ok (.ireturn, 1) → zz_G p l e zrm8_wayAt s m args below meth c Q D A (wM ad cy) 8 pc lv [.int r] σ2) (h : zq8_wayAt_188 v3 v5 v6 v7 σ Qp) : zz_G p l e zrm8_wayAt s m args below meth c Q D A (wM ad cy) 8 188 [(0, .ref (ad 0)), (3, .int v3), (5, .int v5), (6, .int v6), (7, .int v7)] [] σ := by
  unfold zq8_wayAt_188 at h
  obtain ⟨I188, M188, h0, hs⟩ := h
  have key : ∀ (n : Nat) (v5 : Int32) (v6 : Int32) (v7 : Int32), M188 v5 v6 v7 < n → I188 v5 v6 v7 → zz_G p l e zrm8_wayAt s m args below meth c Q D A (wM ad cy) 8 188 [(0, .ref (ad 0)), (3, .int v3), (5, .int v5), (6, .int v6), (7, .int v7)] [] σ := by
    intro n
    induction n with
    | zero => intro v5 v6 v7 hlt; exact absurd hlt (Nat.not_lt_zero _)
    | succ n ih =>
      intro v5 v6 v7 hlt hI
      have h := hs v5 v6 v7 hI
      have hB188 : ∀ (v5' : Int32) (v6' : Int32) (v7' : Int32), (fun v5' v6' v7' => I188 v5' v6' v7' ∧ M188 v5' v6' v7' < M188 v5 v6 v7) v5' v6' v7' → zz_G p l e zrm8_wayAt s m args below meth c Q D A (wM ad cy) 8 188 [(0, .ref (ad 0)), (3, .int v3), (5, .int v5'), (6, .int v6'), (7, .int v7')] [] σ := fun v5' v6' v7' hz => ih v5' v6' v7' (Nat.lt_of_lt_of_le hz.2 (Nat.le_of_lt_succ hlt)) hz.1
      refine zz_iload K 4 dX8_wayAt_188 rfl ?_
      refine zz_iload_n K 1 dX8_wayAt_190 rfl rfl ?_
      refine zz_icmp_gt K 287 dX8_wayAt_191 rfl (fun c39 => ?_) (fun c39 => ?_)
      · have h := (And.left h) c39
        refine zz_iload K 3 dX8_wayAt_287 rfl ?_
        exact hret _ _ rfl h _ _ dX8_wayAt_289
      · have h := (And.right h) c39
        refine zz_iconst K dX8_wayAt_194 zci_0 ?_
        refine zz_istore K [(6, .int (0 : Int32)), (0, .ref (ad 0)), (3, .int v3), (5, .int v5), (7, .int v7)] dX8_wayAt_195 (by decide) rfl ?_
        refine zz_sub [1, 2, 3, 0, 4] [(0, .ref (ad 0)), (3, .int v3), (5, .int v5), (6, .int (0 : Int32)), (7, .int v7)] rfl ?_
        exact zu8_wayAt_197 K hret hB188 h
  exact key _ v5 v6 v7 (Nat.lt_succ_self _) h0
set_option maxHeartbeats 4000000 in
set_option maxRecDepth 100000 in
theorem zu8_wayAt_36 {p : Program} {l : Launch} {e : Env} {s : State} {m : MethodId} {args : Array Value} {below : List Frame} {meth : Method} {c : Code} {Q : State → Prop} {D : va_G} {A : Nat → Prop} {ad : Nat → Nat} {cy : Nat → ClassId} {v1 : Int32} {v2 : Int32} {v3 : Int32} {v4 : Int32} {v5 : Int32} {σ : zz_St} (K : zz_K p s m args c cX8_wayAt 8 RX8 wsX8_wayAt D (tysM cy) A (wM ad cy) []) {Qp : Int32 → zz_St → Prop} (hret : ∀ (r : Int32) (σ2 : zz_St), narrow .int (.int r) = .int r → Qp r σ2 → ∀ (pc : Nat) (lv : List (Nat × Value)), decode cX8_wayAt pc = .ok (.ireturn, 1) → zz_G p l e zrm8_wayAt s m args below meth c Q D A (wM ad cy) 8 pc lv [.int r] σ2) (h : zq8_wayAt_36 v1 v2 v3 v4 v5 σ Qp) : zz_G p l e zrm8_wayAt s m args below meth c Q D A (wM ad cy) 8 36 [(0, .ref (ad 0)), (1, .int v1), (2, .int v2), (3, .int v3), (4, .int v4), (5, .int v5)] [] σ := by
  unfold zq8_wayAt_36 at h
  obtain ⟨I36, M36, h0, hs⟩ := h
  have key : ∀ (n : Nat) (v5 : Int32) (σ : zz_St), M36 v5 σ < n → I36 v5 σ → zz_G p l e zrm8_wayAt s m args below meth c Q D A (wM ad cy) 8 36 [(0, .ref (ad 0)), (1, .int v1), (2, .int v2), (3, .int v3), (4, .int v4), (5, .int v5)] [] σ := by
    intro n
    induction n with
    | zero => intro v5 σ hlt; exact absurd hlt (Nat.not_lt_zero _)
    | succ n ih =>
      intro v5 σ hlt hI
      have h := hs v5 σ hI
      have hB36 : ∀ (v5' : Int32) (σ' : zz_St), (fun v5' σ' => I36 v5' σ' ∧ M36 v5' σ' < M36 v5 σ) v5' σ' → zz_G p l e zrm8_wayAt s m args below meth c Q D A (wM ad cy) 8 36 [(0, .ref (ad 0)), (1, .int v1), (2, .int v2), (3, .int v3), (4, .int v4), (5, .int v5')] [] σ' := fun v5' σ' hz => ih v5' σ' (Nat.lt_of_lt_of_le hz.2 (Nat.le_of_lt_succ hlt)) hz.1
      refine zz_iload K 5 dX8_wayAt_36 rfl ?_
      refine zz_if_lt K 179 dX8_wayAt_38 rfl (fun c40 => ?_) (fun c40 => ?_)
      · have h := (And.left h) c40
        refine zz_iconst K dX8_wayAt_179 zci_0 ?_
        refine zz_istore K [(5, .int (0 : Int32)), (0, .ref (ad 0)), (1, .int v1), (2, .int v2), (3, .int v3), (4, .int v4)] dX8_wayAt_180 (by decide) rfl ?_
        refine zz_iconst K dX8_wayAt_182 zci_0 ?_
        refine zz_istore K [(6, .int (0 : Int32)), (5, .int (0 : Int32)), (0, .ref (ad 0)), (1, .int v1), (2, .int v2), (3, .int v3), (4, .int v4)] dX8_wayAt_183 (by decide) rfl ?_
        refine zz_iconst K dX8_wayAt_185 zci_0 ?_
        refine zz_istore K [(7, .int (0 : Int32)), (6, .int (0 : Int32)), (5, .int (0 : Int32)), (0, .ref (ad 0)), (1, .int v1), (2, .int v2), (3, .int v3), (4, .int v4)] dX8_wayAt_186 (by decide) rfl ?_
        refine zz_sub [3, 6, 2, 1, 0] [(0, .ref (ad 0)), (3, .int v3), (5, .int (0 : Int32)), (6, .int (0 : Int32)), (7, .int (0 : Int32))] rfl ?_
        exact zu8_wayAt_188 K hret h
      · have h := (And.right h) c40
        refine zz_aload_n K 0 dX8_wayAt_41 rfl rfl ?_
        refine zg8_33 K zin_X8_wayAt_X8 zlk_X8_wayAt_2 dX8_wayAt_42 ?_
        refine zz_iload K 5 dX8_wayAt_45 rfl ?_
        refine zz_aload_n K 0 dX8_wayAt_47 rfl rfl ?_
        refine zg8_25 K zin_X8_wayAt_X8 zlk_X8_wayAt_3 dX8_wayAt_48 ?_
        refine zz_iload K 5 dX8_wayAt_51 rfl ?_
        obtain ⟨hin, h⟩ := h
        refine zz_iaload K 0 (wM_at_25 ad cy σ) rfl hin dX8_wayAt_53 ?_
        refine zz_iload K 4 dX8_wayAt_54 rfl ?_
        refine zz_icmp_ne K 74 dX8_wayAt_56 rfl (fun c41 => ?_) (fun c41 => ?_)
        · have h := (And.left h) c41
          exact zu8_wayAt_74 K hret hB36 h
        · have h := (And.right h) c41
          refine zz_aload_n K 0 dX8_wayAt_59 rfl rfl ?_
          refine zz_iload K 5 dX8_wayAt_60 rfl ?_
          refine zz_iload_n K 1 dX8_wayAt_62 rfl rfl ?_
          refine zz_iload_n K 2 dX8_wayAt_63 rfl rfl ?_
          refine zz_callVi K zz_nw_nil [.int v5, .int v1, .int v2] (zc8_isGoal l D ad cy v5 v1 v2 σ _ h) gX8_wayAt_X8_isGoal rfl ⟨rfl, rfl⟩ zds_yX8_isGoal_v ⟨Nat.le_of_ble_eq_true rfl, Nat.le_of_ble_eq_true rfl⟩ (wM_at_0 ad cy _) rfl rfl rfl rfl (Nat.le_of_ble_eq_true rfl) dX8_wayAt_64 (fun r42 g43 h => ?_)
          refine zz_if_eq K 74 dX8_wayAt_67 rfl (fun c44 => ?_) (fun c44 => ?_)
          · have h := (And.left h) c44
            exact zu8_wayAt_74 K hret hB36 h
          · have h := (And.right h) c44
            refine zz_iconst K dX8_wayAt_70 zci_1 ?_
            refine zz_goto K 75 dX8_wayAt_71 rfl ?_
            exact zu8_wayAt_75 K hret hB36 h
  exact key _ v5 σ (Nat.lt_succ_self _) h0
set_option maxHeartbeats 4000000 in
set_option maxRecDepth 100000 in
theorem zu8_wayAt_0 {p : Program} {l : Launch} {e : Env} {s : State} {m : MethodId} {args : Array Value} {below : List Frame} {meth : Method} {c : Code} {Q : State → Prop} {D : va_G} {A : Nat → Prop} {ad : Nat → Nat} {cy : Nat → ClassId} {v1 : Int32} {v2 : Int32} {v3 : Int32} {σ : zz_St} (K : zz_K p s m args c cX8_wayAt 8 RX8 wsX8_wayAt D (tysM cy) A (wM ad cy) []) {Qp : Int32 → zz_St → Prop} (hret : ∀ (r : Int32) (σ2 : zz_St), narrow .int (.int r) = .int r → Qp r σ2 → ∀ (pc : Nat) (lv : List (Nat × Value)), decode cX8_wayAt pc = .ok (.ireturn, 1) → zz_G p l e zrm8_wayAt s m args below meth c Q D A (wM ad cy) 8 pc lv [.int r] σ2) (h : zq8_wayAt v1 v2 v3 σ Qp) : zz_G p l e zrm8_wayAt s m args below meth c Q D A (wM ad cy) 8 0 [(0, .ref (ad 0)), (1, .int v1), (2, .int v2), (3, .int v3)] [] σ := by
  unfold zq8_wayAt at h
  refine zz_aload_n K 0 dX8_wayAt_0 rfl rfl ?_
  refine zz_callVv K zz_nw_nil [] (zc8_goesThrough l D ad cy  σ _ h) gX8_wayAt_X8_goesThrough rfl ⟨rfl, rfl⟩ zds_yX8_goesThrough_v ⟨Nat.le_of_ble_eq_true rfl, Nat.le_of_ble_eq_true rfl⟩ (wM_at_0 ad cy _) rfl rfl rfl rfl (Nat.le_of_ble_eq_true rfl) dX8_wayAt_1 (fun g45 h => ?_)
  refine zz_aload_n K 0 dX8_wayAt_4 rfl rfl ?_
  refine zz_iload_n K 1 dX8_wayAt_5 rfl rfl ?_
  refine zz_iload_n K 2 dX8_wayAt_6 rfl rfl ?_
  refine zz_callVi K zz_nw_nil [.int v1, .int v2] (zc8_soonestTo l D ad cy v1 v2 g45 _ h) gX8_wayAt_X8_soonestTo rfl ⟨rfl, rfl⟩ zds_yX8_soonestTo_v ⟨Nat.le_of_ble_eq_true rfl, Nat.le_of_ble_eq_true rfl⟩ (wM_at_0 ad cy _) rfl rfl rfl rfl (Nat.le_of_ble_eq_true rfl) dX8_wayAt_7 (fun r46 g47 h => ?_)
  refine zz_istore K [(4, .int r46), (0, .ref (ad 0)), (1, .int v1), (2, .int v2), (3, .int v3)] dX8_wayAt_10 (by decide) rfl ?_
  refine zz_iload K 0 dX8_wayAt_12 rfl ?_
  refine zz_bipush K dX8_wayAt_14 zcb_m9 ?_
  refine zz_icmp_eq K 25 dX8_wayAt_16 rfl (fun c48 => ?_) (fun c48 => ?_)
  · have h := (And.left h) c48
    refine zz_bipush K dX8_wayAt_25 zcb_m9 ?_
    exact hret _ _ rfl h _ _ dX8_wayAt_27
  · have h := (And.right h) c48
    refine zz_iload_n K 4 dX8_wayAt_19 rfl rfl ?_
    refine zz_iload K 0 dX8_wayAt_20 rfl ?_
    refine zz_icmp_lt K 28 dX8_wayAt_22 rfl (fun c49 => ?_) (fun c49 => ?_)
    · have h := (And.left h) c49
      refine zz_aload_n K 1 dX8_wayAt_28 rfl rfl ?_
      refine zg8_27 K zin_X8_wayAt_X8 zlk_X8_wayAt_1 dX8_wayAt_29 ?_
      refine zz_iconst K dX8_wayAt_32 zci_1 ?_
      refine zz_isub K dX8_wayAt_33 ?_
      refine zz_nmi (fun x50 ex50 => ?_)
      have h := h x50 ex50
      refine zz_istore K [(5, .int x50), (4, .int r46), (0, .ref (ad 0)), (1, .int v1), (2, .int v2), (3, .int v3)] dX8_wayAt_34 (by decide) rfl ?_
      refine zz_sub [2, 3, 4, 5, 1, 0] [(0, .ref (ad 0)), (1, .int v1), (2, .int v2), (3, .int v3), (4, .int r46), (5, .int x50)] rfl ?_
      exact zu8_wayAt_36 K hret h
    · have h := (And.right h) c49
      refine zz_bipush K dX8_wayAt_25 zcb_m9 ?_
      exact hret _ _ rfl h _ _ dX8_wayAt_27
set_option maxRecDepth 100000 in
theorem zc8_wayAt (l : Launch) (D : va_G) (ad : Nat → Nat) (cy : Nat → ClassId) (v1 : Int32) (v2 : Int32) (v3 : Int32) (σ : zz_St) (Qp : Int32 → zz_St → Prop) (h : zq8_wayAt v1 v2 v3 σ Qp) : zz_Mi l yX8_wayAt wsX8_wayAt zrm8_wayAt D (tysM cy) (wM ad cy) [] [.ref (ad 0), .int v1, .int v2, .int v3] σ Qp :=
  zz_Mi.of zz_nw_nil (wM_ad ad cy) (by decide +kernel) rfl ⟨rfl, rfl⟩ (Nat.le_of_ble_eq_true rfl) (fun p e s m args below meth c A QW K hret => zu8_wayAt_0 K  hret h)
theorem zin_X8_walk_X8 : ∀ w ∈ wsX80, w ∈ wsX8_walk := fun w h => List.mem_cons_of_mem _ (List.mem_append_right _ h)
theorem zlk_X8_walk_1 : Cond.fieldLink RX8 38 "SolidsRolledModel" "isThere" "Z" ∈ wsX8_walk := List.mem_of_getElem? (i := 1) rfl
theorem zds_yX8_wayAt_v : yX8_wayAt.cls = RX8 ∧ yX8_wayAt.cls ≠ "java/lang/invoke/MethodHandle" ∧ yX8_wayAt.cls ≠ "java/lang/invoke/VarHandle" ∧ (parseMethodDescriptor yX8_wayAt.desc).map (fun d => d.parameters.length) = some 3 := by decide +kernel
abbrev zrm8_walk : Room := { frames := 7, cells := 0, slots := 0, locals := 164 }
set_option maxHeartbeats 4000000 in
set_option maxRecDepth 100000 in
theorem zu8_walk_0 {p : Program} {l : Launch} {e : Env} {s : State} {m : MethodId} {args : Array Value} {below : List Frame} {meth : Method} {c : Code} {Q : State → Prop} {D : va_G} {A : Nat → Prop} {ad : Nat → Nat} {cy : Nat → ClassId} {v1 : Int32} {v2 : Int32} {v3 : Int32} {σ : zz_St} (K : zz_K p s m args c cX8_walk 4 RX8 wsX8_walk D (tysM cy) A (wM ad cy) []) {Qp : Int32 → zz_St → Prop} (hret : ∀ (r : Int32) (σ2 : zz_St), narrow .int (.int r) = .int r → Qp r σ2 → ∀ (pc : Nat) (lv : List (Nat × Value)), decode cX8_walk pc = .ok (.ireturn, 1) → zz_G p l e zrm8_walk s m args below meth c Q D A (wM ad cy) 4 pc lv [.int r] σ2) (h : zq8_walk v1 v2 v3 σ Qp) : zz_G p l e zrm8_walk s m args below meth c Q D A (wM ad cy) 4 0 [(0, .ref (ad 0)), (1, .int v1), (2, .int v2), (3, .int v3)] [] σ := by
  unfold zq8_walk at h
  refine zz_aload_n K 0 dX8_walk_0 rfl rfl ?_
  refine zz_iload_n K 1 dX8_walk_1 rfl rfl ?_
  refine zz_iload_n K 2 dX8_walk_2 rfl rfl ?_
  refine zz_callVi1 K zz_nw_nil [.int v1, .int v2] (zc8_areAsked l D ad cy v1 v2 σ _ h) gX8_walk_X8_areAsked rfl ⟨rfl, rfl⟩ zds_yX8_areAsked_v ⟨Nat.le_of_ble_eq_true rfl, Nat.le_of_ble_eq_true rfl⟩ (wM_at_0 ad cy _) rfl rfl rfl rfl (Nat.le_of_ble_eq_true rfl) dX8_walk_3 (fun r13 h => ?_)
  refine zz_if_ne K 15 dX8_walk_6 rfl (fun c14 => ?_) (fun c14 => ?_)
  · have h := (And.left h) c14
    refine zz_iload_n K 3 dX8_walk_15 rfl rfl ?_
    refine zz_if_ge K 26 dX8_walk_16 rfl (fun c15 => ?_) (fun c15 => ?_)
    · have h := (And.left h) c15
      refine zz_aload_n K 0 dX8_walk_26 rfl rfl ?_
      refine zg8_9 K zin_X8_walk_X8 zlk_X8_walk_1 dX8_walk_27 ?_
      refine zz_if_ne K 40 dX8_walk_30 rfl (fun c16 => ?_) (fun c16 => ?_)
      · have h := (And.left h) c16
        refine zz_aload_n K 0 dX8_walk_40 rfl rfl ?_
        refine zz_iload_n K 1 dX8_walk_41 rfl rfl ?_
        refine zz_iload_n K 2 dX8_walk_42 rfl rfl ?_
        refine zz_iload_n K 3 dX8_walk_43 rfl rfl ?_
        refine zz_callVi K zz_nw_nil [.int v1, .int v2, .int v3] (zc8_wayAt l D ad cy v1 v2 v3 σ _ h) gX8_walk_X8_wayAt rfl ⟨rfl, rfl⟩ zds_yX8_wayAt_v ⟨Nat.le_of_ble_eq_true rfl, Nat.le_of_ble_eq_true rfl⟩ (wM_at_0 ad cy _) rfl rfl rfl rfl (Nat.le_of_ble_eq_true rfl) dX8_walk_44 (fun r17 g18 h => ?_)
        exact hret _ _ rfl h _ _ dX8_walk_47
      · have h := (And.right h) c16
        refine zz_aload_n K 0 dX8_walk_33 rfl rfl ?_
        refine zz_bipush K dX8_walk_34 zcb_m3 ?_
        refine zz_callVi K zz_nw_nil [.int (-3 : Int32)] (zc8_no l D ad cy (-3 : Int32) σ _ h) gX8_walk_X8_no rfl ⟨rfl, rfl⟩ zds_yX8_no_v ⟨Nat.le_of_ble_eq_true rfl, Nat.le_of_ble_eq_true rfl⟩ (wM_at_0 ad cy _) rfl rfl rfl rfl (Nat.le_of_ble_eq_true rfl) dX8_walk_36 (fun r19 g20 h => ?_)
        exact hret _ _ rfl h _ _ dX8_walk_39
    · have h := (And.right h) c15
      refine zz_aload_n K 0 dX8_walk_19 rfl rfl ?_
      refine zz_bipush K dX8_walk_20 zcb_m4 ?_
      refine zz_callVi K zz_nw_nil [.int (-4 : Int32)] (zc8_no l D ad cy (-4 : Int32) σ _ h) gX8_walk_X8_no rfl ⟨rfl, rfl⟩ zds_yX8_no_v ⟨Nat.le_of_ble_eq_true rfl, Nat.le_of_ble_eq_true rfl⟩ (wM_at_0 ad cy _) rfl rfl rfl rfl (Nat.le_of_ble_eq_true rfl) dX8_walk_22 (fun r21 g22 h => ?_)
      exact hret _ _ rfl h _ _ dX8_walk_25
  · have h := (And.right h) c14
    refine zz_aload_n K 0 dX8_walk_9 rfl rfl ?_
    refine zz_iconst K dX8_walk_10 zci_m1 ?_
    refine zz_callVi K zz_nw_nil [.int (-1 : Int32)] (zc8_no l D ad cy (-1 : Int32) σ _ h) gX8_walk_X8_no rfl ⟨rfl, rfl⟩ zds_yX8_no_v ⟨Nat.le_of_ble_eq_true rfl, Nat.le_of_ble_eq_true rfl⟩ (wM_at_0 ad cy _) rfl rfl rfl rfl (Nat.le_of_ble_eq_true rfl) dX8_walk_11 (fun r23 g24 h => ?_)
    exact hret _ _ rfl h _ _ dX8_walk_14
set_option maxRecDepth 100000 in
theorem zc8_walk (l : Launch) (D : va_G) (ad : Nat → Nat) (cy : Nat → ClassId) (v1 : Int32) (v2 : Int32) (v3 : Int32) (σ : zz_St) (Qp : Int32 → zz_St → Prop) (h : zq8_walk v1 v2 v3 σ Qp) : zz_Mi l yX8_walk wsX8_walk zrm8_walk D (tysM cy) (wM ad cy) [] [.ref (ad 0), .int v1, .int v2, .int v3] σ Qp :=
  zz_Mi.of zz_nw_nil (wM_ad ad cy) (by decide +kernel) rfl ⟨rfl, rfl⟩ (Nat.le_of_ble_eq_true rfl) (fun p e s m args below meth c A QW K hret => zu8_walk_0 K  hret h)
theorem zin_X8_belowOf_X8 : ∀ w ∈ wsX80, w ∈ wsX8_belowOf := fun w h => List.mem_cons_of_mem _ (List.mem_append_right _ h)
theorem zlk_X8_belowOf_1 : Cond.fieldLink RX8 66 "SolidsRolledModel" "queueFaces" "[I" ∈ wsX8_belowOf := List.mem_of_getElem? (i := 1) rfl
abbrev zrm8_belowOf : Room := { frames := 1, cells := 0, slots := 0, locals := 20 }
set_option maxHeartbeats 4000000 in
set_option maxRecDepth 100000 in
theorem zu8_belowOf_0 {p : Program} {l : Launch} {e : Env} {s : State} {m : MethodId} {args : Array Value} {below : List Frame} {meth : Method} {c : Code} {Q : State → Prop} {D : va_G} {A : Nat → Prop} {ad : Nat → Nat} {cy : Nat → ClassId} {v1 : Int32} {σ : zz_St} (K : zz_K p s m args c cX8_belowOf 2 RX8 wsX8_belowOf D (tysM cy) A (wM ad cy) []) {Qp : Int32 → Prop} (hret : ∀ (r : Int32), narrow .int (.int r) = .int r → Qp r → ∀ (pc : Nat) (lv : List (Nat × Value)), decode cX8_belowOf pc = .ok (.ireturn, 1) → zz_G p l e zrm8_belowOf s m args below meth c Q D A (wM ad cy) 2 pc lv [.int r] σ) (h : zq8_belowOf v1 σ Qp) : zz_G p l e zrm8_belowOf s m args below meth c Q D A (wM ad cy) 2 0 [(0, .ref (ad 0)), (1, .int v1)] [] σ := by
  unfold zq8_belowOf at h
  refine zz_aload_n K 0 dX8_belowOf_0 rfl rfl ?_
  refine zg8_24 K zin_X8_belowOf_X8 zlk_X8_belowOf_1 dX8_belowOf_1 ?_
  refine zz_bipush K dX8_belowOf_4 zcb_6 ?_
  refine zz_iload_n K 1 dX8_belowOf_6 rfl rfl ?_
  refine zz_imul K dX8_belowOf_7 ?_
  refine zz_aload_n K 0 dX8_belowOf_8 rfl rfl ?_
  refine zz_callVi1 K zz_nw_nil [] (zc8_isTetra l D ad cy  σ _ h) gX8_belowOf_X8_isTetra rfl ⟨rfl, rfl⟩ zds_yX8_isTetra_v ⟨Nat.le_of_ble_eq_true rfl, Nat.le_of_ble_eq_true rfl⟩ (wM_at_0 ad cy _) rfl rfl rfl rfl (Nat.le_of_ble_eq_true rfl) dX8_belowOf_9 (fun r3 h => ?_)
  refine zz_if_eq K 19 dX8_belowOf_12 rfl (fun c4 => ?_) (fun c4 => ?_)
  · have h := (And.left h) c4
    refine zz_iconst K dX8_belowOf_19 zci_1 ?_
    refine zz_iadd K dX8_belowOf_20 ?_
    obtain ⟨hin, h⟩ := h
    refine zz_iaload K 0 (wM_at_24 ad cy σ) rfl hin dX8_belowOf_21 ?_
    exact hret _ rfl h _ _ dX8_belowOf_22
  · have h := (And.right h) c4
    refine zz_iconst K dX8_belowOf_15 zci_0 ?_
    refine zz_goto K 20 dX8_belowOf_16 rfl ?_
    refine zz_iadd K dX8_belowOf_20 ?_
    obtain ⟨hin, h⟩ := h
    refine zz_iaload K 0 (wM_at_24 ad cy σ) rfl hin dX8_belowOf_21 ?_
    exact hret _ rfl h _ _ dX8_belowOf_22
set_option maxRecDepth 100000 in
theorem zc8_belowOf (l : Launch) (D : va_G) (ad : Nat → Nat) (cy : Nat → ClassId) (v1 : Int32) (σ : zz_St) (Qp : Int32 → Prop) (h : zq8_belowOf v1 σ Qp) : zz_Mi l yX8_belowOf wsX8_belowOf zrm8_belowOf D (tysM cy) (wM ad cy) [] [.ref (ad 0), .int v1] σ (fun r σ2 => σ2 = σ ∧ Qp r) :=
  zz_Mi.of zz_nw_nil (wM_ad ad cy) (by decide +kernel) rfl ⟨rfl, rfl⟩ (Nat.le_of_ble_eq_true rfl) (fun p e s m args below meth c A QW K hret => zu8_belowOf_0 K  (fun r hn hq pc lv hd => hret r σ hn ⟨rfl, hq⟩ pc lv hd) h)
theorem zin_X8_faces_X8 : ∀ w ∈ wsX80, w ∈ wsX8_faces := fun w h => List.mem_cons_of_mem _ (List.mem_append_right _ h)
theorem zlk_X8_faces_1 : Cond.fieldLink RX8 38 "SolidsRolledModel" "isThere" "Z" ∈ wsX8_faces := List.mem_of_getElem? (i := 1) rfl
theorem zlk_X8_faces_2 : Cond.fieldLink RX8 251 "SolidsRolledModel" "many" "I" ∈ wsX8_faces := List.mem_of_getElem? (i := 2) rfl
theorem zlk_X8_faces_3 : Cond.fieldLink RX8 63 "SolidsRolledModel" "queuePlace" "[I" ∈ wsX8_faces := List.mem_of_getElem? (i := 3) rfl
theorem zds_yX8_belowOf_v : yX8_belowOf.cls = RX8 ∧ yX8_belowOf.cls ≠ "java/lang/invoke/MethodHandle" ∧ yX8_belowOf.cls ≠ "java/lang/invoke/VarHandle" ∧ (parseMethodDescriptor yX8_belowOf.desc).map (fun d => d.parameters.length) = some 1 := by decide +kernel
abbrev zrm8_faces : Room := { frames := 6, cells := 0, slots := 0, locals := 137 }
set_option maxHeartbeats 4000000 in
set_option maxRecDepth 100000 in
theorem zu8_faces_66 {p : Program} {l : Launch} {e : Env} {s : State} {m : MethodId} {args : Array Value} {below : List Frame} {meth : Method} {c : Code} {Q : State → Prop} {D : va_G} {A : Nat → Prop} {ad : Nat → Nat} {cy : Nat → ClassId} {v1 : Int32} {v3 : Int32} {s0 : Int32} {s1 : Int32} {σ : zz_St} (K : zz_K p s m args c cX8_faces 4 RX8 wsX8_faces D (tysM cy) A (wM ad cy) []) {Qp : Int32 → zz_St → Prop} (hret : ∀ (r : Int32) (σ2 : zz_St), narrow .int (.int r) = .int r → Qp r σ2 → ∀ (pc : Nat) (lv : List (Nat × Value)), decode cX8_faces pc = .ok (.ireturn, 1) → zz_G p l e zrm8_faces s m args below meth c Q D A (wM ad cy) 4 pc lv [.int r] σ2) {B36 : Int32 → Int32 → Prop} (hB36 : ∀ (v2' : Int32) (v3' : Int32), B36 v2' v3' → zz_G p l e zrm8_faces s m args below meth c Q D A (wM ad cy) 4 36 [(0, .ref (ad 0)), (1, .int v1), (2, .int v2'), (3, .int v3')] [] σ) (h : zq8_faces_66 v1 v3 s0 s1 σ Qp B36) : zz_G p l e zrm8_faces s m args below meth c Q D A (wM ad cy) 4 66 [(0, .ref (ad 0)), (1, .int v1), (3, .int v3)] [.int s0, .int s1] σ := by
  unfold zq8_faces_66 at h
  refine zz_ior K dX8_faces_66 ?_
  refine zz_nmi (fun x13 ex13 => ?_)
  have h := h x13 ex13
  refine zz_istore_n K [(2, .int x13), (0, .ref (ad 0)), (1, .int v1), (3, .int v3)] dX8_faces_67 rfl (by decide) rfl ?_
  refine zz_iinc K 3 [(3, .int (v3 + (1 : Int32))), (2, .int x13), (0, .ref (ad 0)), (1, .int v1)] dX8_faces_68 zci_1 rfl (by decide) rfl ?_
  refine zz_goto K 36 dX8_faces_71 rfl ?_
  refine zz_sub [2, 3, 1, 0] [(0, .ref (ad 0)), (1, .int v1), (2, .int x13), (3, .int (v3 + (1 : Int32)))] rfl ?_
  exact hB36 x13 (v3 + (1 : Int32)) h
set_option maxHeartbeats 4000000 in
set_option maxRecDepth 100000 in
theorem zu8_faces_36 {p : Program} {l : Launch} {e : Env} {s : State} {m : MethodId} {args : Array Value} {below : List Frame} {meth : Method} {c : Code} {Q : State → Prop} {D : va_G} {A : Nat → Prop} {ad : Nat → Nat} {cy : Nat → ClassId} {v1 : Int32} {v2 : Int32} {v3 : Int32} {σ : zz_St} (K : zz_K p s m args c cX8_faces 4 RX8 wsX8_faces D (tysM cy) A (wM ad cy) []) {Qp : Int32 → zz_St → Prop} (hret : ∀ (r : Int32) (σ2 : zz_St), narrow .int (.int r) = .int r → Qp r σ2 → ∀ (pc : Nat) (lv : List (Nat × Value)), decode cX8_faces pc = .ok (.ireturn, 1) → zz_G p l e zrm8_faces s m args below meth c Q D A (wM ad cy) 4 pc lv [.int r] σ2) (h : zq8_faces_36 v1 v2 v3 σ Qp) : zz_G p l e zrm8_faces s m args below meth c Q D A (wM ad cy) 4 36 [(0, .ref (ad 0)), (1, .int v1), (2, .int v2), (3, .int v3)] [] σ := by
  unfold zq8_faces_36 at h
  obtain ⟨I36, M36, h0, hs⟩ := h
  have key : ∀ (n : Nat) (v2 : Int32) (v3 : Int32), M36 v2 v3 < n → I36 v2 v3 → zz_G p l e zrm8_faces s m args below meth c Q D A (wM ad cy) 4 36 [(0, .ref (ad 0)), (1, .int v1), (2, .int v2), (3, .int v3)] [] σ := by
    intro n
    induction n with
    | zero => intro v2 v3 hlt; exact absurd hlt (Nat.not_lt_zero _)
    | succ n ih =>
      intro v2 v3 hlt hI
      have h := hs v2 v3 hI
      have hB36 : ∀ (v2' : Int32) (v3' : Int32), (fun v2' v3' => I36 v2' v3' ∧ M36 v2' v3' < M36 v2 v3) v2' v3' → zz_G p l e zrm8_faces s m args below meth c Q D A (wM ad cy) 4 36 [(0, .ref (ad 0)), (1, .int v1), (2, .int v2'), (3, .int v3')] [] σ := fun v2' v3' hz => ih v2' v3' (Nat.lt_of_lt_of_le hz.2 (Nat.le_of_lt_succ hlt)) hz.1
      refine zz_iload_n K 3 dX8_faces_36 rfl rfl ?_
      refine zz_aload_n K 0 dX8_faces_37 rfl rfl ?_
      refine zg8_27 K zin_X8_faces_X8 zlk_X8_faces_2 dX8_faces_38 ?_
      refine zz_icmp_ge K 74 dX8_faces_41 rfl (fun c14 => ?_) (fun c14 => ?_)
      · have h := (And.left h) c14
        refine zz_iload_n K 2 dX8_faces_74 rfl rfl ?_
        exact hret _ _ rfl h _ _ dX8_faces_75
      · have h := (And.right h) c14
        refine zz_iload_n K 2 dX8_faces_44 rfl rfl ?_
        refine zz_aload_n K 0 dX8_faces_45 rfl rfl ?_
        refine zg8_23 K zin_X8_faces_X8 zlk_X8_faces_3 dX8_faces_46 ?_
        refine zz_iload_n K 3 dX8_faces_49 rfl rfl ?_
        obtain ⟨hin, h⟩ := h
        refine zz_iaload K 0 (wM_at_23 ad cy σ) rfl hin dX8_faces_50 ?_
        refine zz_iload_n K 1 dX8_faces_51 rfl rfl ?_
        refine zz_icmp_ne K 65 dX8_faces_52 rfl (fun c15 => ?_) (fun c15 => ?_)
        · have h := (And.left h) c15
          refine zz_iconst K dX8_faces_65 zci_0 ?_
          refine zz_sub [0, 1, 3] [(0, .ref (ad 0)), (1, .int v1), (3, .int v3)] rfl ?_
          exact zu8_faces_66 K hret hB36 h
        · have h := (And.right h) c15
          refine zz_iconst K dX8_faces_55 zci_1 ?_
          refine zz_aload_n K 0 dX8_faces_56 rfl rfl ?_
          refine zz_iload_n K 3 dX8_faces_57 rfl rfl ?_
          refine zz_callVi1 K zz_nw_nil [.int v3] (zc8_belowOf l D ad cy v3 σ _ h) gX8_faces_X8_belowOf rfl ⟨rfl, rfl⟩ zds_yX8_belowOf_v ⟨Nat.le_of_ble_eq_true rfl, Nat.le_of_ble_eq_true rfl⟩ (wM_at_0 ad cy _) rfl rfl rfl rfl (Nat.le_of_ble_eq_true rfl) dX8_faces_58 (fun r16 h => ?_)
          refine zz_ishl K dX8_faces_61 ?_
          refine zz_goto K 66 dX8_faces_62 rfl ?_
          refine zz_sub [0, 1, 3] [(0, .ref (ad 0)), (1, .int v1), (3, .int v3)] rfl ?_
          exact zu8_faces_66 K hret hB36 h
  exact key _ v2 v3 (Nat.lt_succ_self _) h0
set_option maxHeartbeats 4000000 in
set_option maxRecDepth 100000 in
theorem zu8_faces_0 {p : Program} {l : Launch} {e : Env} {s : State} {m : MethodId} {args : Array Value} {below : List Frame} {meth : Method} {c : Code} {Q : State → Prop} {D : va_G} {A : Nat → Prop} {ad : Nat → Nat} {cy : Nat → ClassId} {v1 : Int32} {σ : zz_St} (K : zz_K p s m args c cX8_faces 4 RX8 wsX8_faces D (tysM cy) A (wM ad cy) []) {Qp : Int32 → zz_St → Prop} (hret : ∀ (r : Int32) (σ2 : zz_St), narrow .int (.int r) = .int r → Qp r σ2 → ∀ (pc : Nat) (lv : List (Nat × Value)), decode cX8_faces pc = .ok (.ireturn, 1) → zz_G p l e zrm8_faces s m args below meth c Q D A (wM ad cy) 4 pc lv [.int r] σ2) (h : zq8_faces v1 σ Qp) : zz_G p l e zrm8_faces s m args below meth c Q D A (wM ad cy) 4 0 [(0, .ref (ad 0)), (1, .int v1)] [] σ := by
  unfold zq8_faces at h
  refine zz_aload_n K 0 dX8_faces_0 rfl rfl ?_
  refine zz_iload_n K 1 dX8_faces_1 rfl rfl ?_
  refine zz_callVi1 K zz_nw_nil [.int v1] (zc8_isPlace l D ad cy v1 σ _ h) gX8_faces_X8_isPlace rfl ⟨rfl, rfl⟩ zds_yX8_isPlace_v ⟨Nat.le_of_ble_eq_true rfl, Nat.le_of_ble_eq_true rfl⟩ (wM_at_0 ad cy _) rfl rfl rfl rfl (Nat.le_of_ble_eq_true rfl) dX8_faces_2 (fun r17 h => ?_)
  refine zz_if_ne K 14 dX8_faces_5 rfl (fun c18 => ?_) (fun c18 => ?_)
  · have h := (And.left h) c18
    refine zz_aload_n K 0 dX8_faces_14 rfl rfl ?_
    refine zg8_9 K zin_X8_faces_X8 zlk_X8_faces_1 dX8_faces_15 ?_
    refine zz_if_ne K 28 dX8_faces_18 rfl (fun c19 => ?_) (fun c19 => ?_)
    · have h := (And.left h) c19
      refine zz_aload_n K 0 dX8_faces_28 rfl rfl ?_
      refine zz_callVv K zz_nw_nil [] (zc8_goesThrough l D ad cy  σ _ h) gX8_faces_X8_goesThrough rfl ⟨rfl, rfl⟩ zds_yX8_goesThrough_v ⟨Nat.le_of_ble_eq_true rfl, Nat.le_of_ble_eq_true rfl⟩ (wM_at_0 ad cy _) rfl rfl rfl rfl (Nat.le_of_ble_eq_true rfl) dX8_faces_29 (fun g20 h => ?_)
      refine zz_iconst K dX8_faces_32 zci_0 ?_
      refine zz_istore_n K [(2, .int (0 : Int32)), (0, .ref (ad 0)), (1, .int v1)] dX8_faces_33 rfl (by decide) rfl ?_
      refine zz_iconst K dX8_faces_34 zci_0 ?_
      refine zz_istore_n K [(3, .int (0 : Int32)), (2, .int (0 : Int32)), (0, .ref (ad 0)), (1, .int v1)] dX8_faces_35 rfl (by decide) rfl ?_
      refine zz_sub [2, 3, 1, 0] [(0, .ref (ad 0)), (1, .int v1), (2, .int (0 : Int32)), (3, .int (0 : Int32))] rfl ?_
      exact zu8_faces_36 K hret h
    · have h := (And.right h) c19
      refine zz_aload_n K 0 dX8_faces_21 rfl rfl ?_
      refine zz_bipush K dX8_faces_22 zcb_m3 ?_
      refine zz_callVi K zz_nw_nil [.int (-3 : Int32)] (zc8_no l D ad cy (-3 : Int32) σ _ h) gX8_faces_X8_no rfl ⟨rfl, rfl⟩ zds_yX8_no_v ⟨Nat.le_of_ble_eq_true rfl, Nat.le_of_ble_eq_true rfl⟩ (wM_at_0 ad cy _) rfl rfl rfl rfl (Nat.le_of_ble_eq_true rfl) dX8_faces_24 (fun r21 g22 h => ?_)
      exact hret _ _ rfl h _ _ dX8_faces_27
  · have h := (And.right h) c18
    refine zz_aload_n K 0 dX8_faces_8 rfl rfl ?_
    refine zz_iconst K dX8_faces_9 zci_m1 ?_
    refine zz_callVi K zz_nw_nil [.int (-1 : Int32)] (zc8_no l D ad cy (-1 : Int32) σ _ h) gX8_faces_X8_no rfl ⟨rfl, rfl⟩ zds_yX8_no_v ⟨Nat.le_of_ble_eq_true rfl, Nat.le_of_ble_eq_true rfl⟩ (wM_at_0 ad cy _) rfl rfl rfl rfl (Nat.le_of_ble_eq_true rfl) dX8_faces_10 (fun r23 g24 h => ?_)
    exact hret _ _ rfl h _ _ dX8_faces_13
set_option maxRecDepth 100000 in
theorem zc8_faces (l : Launch) (D : va_G) (ad : Nat → Nat) (cy : Nat → ClassId) (v1 : Int32) (σ : zz_St) (Qp : Int32 → zz_St → Prop) (h : zq8_faces v1 σ Qp) : zz_Mi l yX8_faces wsX8_faces zrm8_faces D (tysM cy) (wM ad cy) [] [.ref (ad 0), .int v1] σ Qp :=
  zz_Mi.of zz_nw_nil (wM_ad ad cy) (by decide +kernel) rfl ⟨rfl, rfl⟩ (Nat.le_of_ble_eq_true rfl) (fun p e s m args below meth c A QW K hret => zu8_faces_0 K  hret h)
theorem zin_X8_fill_X8 : ∀ w ∈ wsX80, w ∈ wsX8_fill := fun w h => List.mem_cons_of_mem _ (List.mem_append_right _ h)
theorem zlk_X8_fill_1 : Cond.fieldLink RX8 38 "SolidsRolledModel" "isThere" "Z" ∈ wsX8_fill := List.mem_of_getElem? (i := 1) rfl
theorem zlk_X8_fill_2 : Cond.fieldLink RX8 251 "SolidsRolledModel" "many" "I" ∈ wsX8_fill := List.mem_of_getElem? (i := 2) rfl
theorem zlk_X8_fill_3 : Cond.fieldLink RX8 29 "SolidsRolledModel" "tiles" "[I" ∈ wsX8_fill := List.mem_of_getElem? (i := 3) rfl
abbrev zrm8_fill : Room := { frames := 6, cells := 0, slots := 0, locals := 137 }
set_option maxHeartbeats 4000000 in
set_option maxRecDepth 100000 in
theorem zu8_fill_105 {p : Program} {l : Launch} {e : Env} {s : State} {m : MethodId} {args : Array Value} {below : List Frame} {meth : Method} {c : Code} {Q : State → Prop} {D : va_G} {A : Nat → Prop} {ad : Nat → Nat} {cy : Nat → ClassId} {v1 : Int32} {v2 : Int32} {v3 : Int32} {v4 : Int32} {σ : zz_St} (K : zz_K p s m args c cX8_fill 5 RX8 wsX8_fill D (tysM cy) A (wM ad cy) []) {Qp : Int32 → zz_St → Prop} (hret : ∀ (r : Int32) (σ2 : zz_St), narrow .int (.int r) = .int r → Qp r σ2 → ∀ (pc : Nat) (lv : List (Nat × Value)), decode cX8_fill pc = .ok (.ireturn, 1) → zz_G p l e zrm8_fill s m args below meth c Q D A (wM ad cy) 5 pc lv [.int r] σ2) {B46 : Int32 → Int32 → Int32 → zz_St → Prop} (hB46 : ∀ (v2' : Int32) (v3' : Int32) (v4' : Int32) (σ' : zz_St), B46 v2' v3' v4' σ' → zz_G p l e zrm8_fill s m args below meth c Q D A (wM ad cy) 5 46 [(0, .ref (ad 0)), (1, .int v1), (2, .int v2'), (3, .int v3'), (4, .int v4')] [] σ') (h : zq8_fill_105 v1 v2 v3 v4 σ Qp B46) : zz_G p l e zrm8_fill s m args below meth c Q D A (wM ad cy) 5 105 [(0, .ref (ad 0)), (1, .int v1), (2, .int v2), (3, .int v3), (4, .int v4)] [] σ := by
  unfold zq8_fill_105 at h
  refine zz_iinc K 4 [(4, .int (v4 + (1 : Int32))), (0, .ref (ad 0)), (1, .int v1), (2, .int v2), (3, .int v3)] dX8_fill_105 zci_1 rfl (by decide) rfl ?_
  refine zz_goto K 46 dX8_fill_108 rfl ?_
  refine zz_sub [1, 2, 3, 4, 0] [(0, .ref (ad 0)), (1, .int v1), (2, .int v2), (3, .int v3), (4, .int (v4 + (1 : Int32)))] rfl ?_
  exact hB46 v2 v3 (v4 + (1 : Int32)) σ h
set_option maxHeartbeats 4000000 in
set_option maxRecDepth 100000 in
theorem zu8_fill_46 {p : Program} {l : Launch} {e : Env} {s : State} {m : MethodId} {args : Array Value} {below : List Frame} {meth : Method} {c : Code} {Q : State → Prop} {D : va_G} {A : Nat → Prop} {ad : Nat → Nat} {cy : Nat → ClassId} {v1 : Int32} {v2 : Int32} {v3 : Int32} {v4 : Int32} {σ : zz_St} (K : zz_K p s m args c cX8_fill 5 RX8 wsX8_fill D (tysM cy) A (wM ad cy) []) {Qp : Int32 → zz_St → Prop} (hret : ∀ (r : Int32) (σ2 : zz_St), narrow .int (.int r) = .int r → Qp r σ2 → ∀ (pc : Nat) (lv : List (Nat × Value)), decode cX8_fill pc = .ok (.ireturn, 1) → zz_G p l e zrm8_fill s m args below meth c Q D A (wM ad cy) 5 pc lv [.int r] σ2) (h : zq8_fill_46 v1 v2 v3 v4 σ Qp) : zz_G p l e zrm8_fill s m args below meth c Q D A (wM ad cy) 5 46 [(0, .ref (ad 0)), (1, .int v1), (2, .int v2), (3, .int v3), (4, .int v4)] [] σ := by
  unfold zq8_fill_46 at h
  obtain ⟨I46, M46, h0, hs⟩ := h
  have key : ∀ (n : Nat) (v2 : Int32) (v3 : Int32) (v4 : Int32) (σ : zz_St), M46 v2 v3 v4 σ < n → I46 v2 v3 v4 σ → zz_G p l e zrm8_fill s m args below meth c Q D A (wM ad cy) 5 46 [(0, .ref (ad 0)), (1, .int v1), (2, .int v2), (3, .int v3), (4, .int v4)] [] σ := by
    intro n
    induction n with
    | zero => intro v2 v3 v4 σ hlt; exact absurd hlt (Nat.not_lt_zero _)
    | succ n ih =>
      intro v2 v3 v4 σ hlt hI
      have h := hs v2 v3 v4 σ hI
      have hB46 : ∀ (v2' : Int32) (v3' : Int32) (v4' : Int32) (σ' : zz_St), (fun v2' v3' v4' σ' => I46 v2' v3' v4' σ' ∧ M46 v2' v3' v4' σ' < M46 v2 v3 v4 σ) v2' v3' v4' σ' → zz_G p l e zrm8_fill s m args below meth c Q D A (wM ad cy) 5 46 [(0, .ref (ad 0)), (1, .int v1), (2, .int v2'), (3, .int v3'), (4, .int v4')] [] σ' := fun v2' v3' v4' σ' hz => ih v2' v3' v4' σ' (Nat.lt_of_lt_of_le hz.2 (Nat.le_of_lt_succ hlt)) hz.1
      refine zz_iload K 4 dX8_fill_46 rfl ?_
      refine zz_aload_n K 0 dX8_fill_48 rfl rfl ?_
      refine zz_callVi1 K zz_nw_nil [] (zc8_tileMany l D ad cy  σ _ h) gX8_fill_X8_tileMany rfl ⟨rfl, rfl⟩ zds_yX8_tileMany_v ⟨Nat.le_of_ble_eq_true rfl, Nat.le_of_ble_eq_true rfl⟩ (wM_at_0 ad cy _) rfl rfl rfl rfl (Nat.le_of_ble_eq_true rfl) dX8_fill_49 (fun r20 h => ?_)
      refine zz_icmp_ge K 111 dX8_fill_52 rfl (fun c21 => ?_) (fun c21 => ?_)
      · have h := (And.left h) c21
        refine zz_iload_n K 1 dX8_fill_111 rfl rfl ?_
        refine zz_if_eq K 121 dX8_fill_112 rfl (fun c22 => ?_) (fun c22 => ?_)
        · have h := (And.left h) c22
          refine zz_iload_n K 3 dX8_fill_121 rfl rfl ?_
          refine zz_goto K 126 dX8_fill_122 rfl ?_
          exact hret _ _ rfl h _ _ dX8_fill_126
        · have h := (And.right h) c22
          refine zz_iload_n K 3 dX8_fill_115 rfl rfl ?_
          refine zz_bipush K dX8_fill_116 zcb_m9 ?_
          refine zz_icmp_ne K 125 dX8_fill_118 rfl (fun c23 => ?_) (fun c23 => ?_)
          · have h := (And.left h) c23
            refine zz_iload_n K 2 dX8_fill_125 rfl rfl ?_
            exact hret _ _ rfl h _ _ dX8_fill_126
          · have h := (And.right h) c23
            refine zz_iload_n K 3 dX8_fill_121 rfl rfl ?_
            refine zz_goto K 126 dX8_fill_122 rfl ?_
            exact hret _ _ rfl h _ _ dX8_fill_126
      · have h := (And.right h) c21
        refine zz_aload_n K 0 dX8_fill_55 rfl rfl ?_
        refine zg8_4 K zin_X8_fill_X8 zlk_X8_fill_3 dX8_fill_56 ?_
        refine zz_iload K 4 dX8_fill_59 rfl ?_
        obtain ⟨hin, h⟩ := h
        refine zz_iaload K 0 (wM_at_4 ad cy σ) rfl hin dX8_fill_61 ?_
        refine zz_iconst K dX8_fill_62 zci_1 ?_
        refine zz_icmp_eq K 69 dX8_fill_63 rfl (fun c24 => ?_) (fun c24 => ?_)
        · have h := (And.left h) c24
          refine zz_aload_n K 0 dX8_fill_69 rfl rfl ?_
          refine zg8_4 K zin_X8_fill_X8 zlk_X8_fill_3 dX8_fill_70 ?_
          refine zz_iload K 4 dX8_fill_73 rfl ?_
          refine zz_iconst K dX8_fill_75 zci_0 ?_
          obtain ⟨hin, h⟩ := h
          refine zz_iastore K 0 (σ2 := zz_A σ 4 (upd ((σ).2.1 4) v4.toNatClampNeg (0 : Int32))) (wM_at_4 ad cy σ) (wM_set_4 ad cy σ _) rfl hin dX8_fill_76 ?_
          refine zz_nms (fun g25 eg25 => ?_)
          have h := h g25 eg25
          refine zz_aload_n K 0 dX8_fill_77 rfl rfl ?_
          refine zz_callVv K zz_nw_nil [] (zc8_goesThrough l D ad cy  g25 _ h) gX8_fill_X8_goesThrough rfl ⟨rfl, rfl⟩ zds_yX8_goesThrough_v ⟨Nat.le_of_ble_eq_true rfl, Nat.le_of_ble_eq_true rfl⟩ (wM_at_0 ad cy _) rfl rfl rfl rfl (Nat.le_of_ble_eq_true rfl) dX8_fill_78 (fun g26 h => ?_)
          refine zz_aload_n K 0 dX8_fill_81 rfl rfl ?_
          refine zg8_4 K zin_X8_fill_X8 zlk_X8_fill_3 dX8_fill_82 ?_
          refine zz_iload K 4 dX8_fill_85 rfl ?_
          refine zz_iconst K dX8_fill_87 zci_1 ?_
          obtain ⟨hin, h⟩ := h
          refine zz_iastore K 0 (σ2 := zz_A g26 4 (upd (g26.2.1 4) v4.toNatClampNeg (1 : Int32))) (wM_at_4 ad cy g26) (wM_set_4 ad cy g26 _) rfl hin dX8_fill_88 ?_
          refine zz_nms (fun g27 eg27 => ?_)
          have h := h g27 eg27
          refine zz_aload_n K 0 dX8_fill_89 rfl rfl ?_
          refine zg8_27 K zin_X8_fill_X8 zlk_X8_fill_2 dX8_fill_90 ?_
          refine zz_iload_n K 2 dX8_fill_93 rfl rfl ?_
          refine zz_icmp_le K 105 dX8_fill_94 rfl (fun c28 => ?_) (fun c28 => ?_)
          · have h := (And.left h) c28
            exact zu8_fill_105 K hret hB46 h
          · have h := (And.right h) c28
            refine zz_aload_n K 0 dX8_fill_97 rfl rfl ?_
            refine zg8_27 K zin_X8_fill_X8 zlk_X8_fill_2 dX8_fill_98 ?_
            refine zz_nmi (fun x29 ex29 => ?_)
            have h := h x29 ex29
            refine zz_istore_n K [(2, .int x29), (0, .ref (ad 0)), (1, .int v1), (3, .int v3), (4, .int v4)] dX8_fill_101 rfl (by decide) rfl ?_
            refine zz_iload K 4 dX8_fill_102 rfl ?_
            refine zz_istore_n K [(3, .int v4), (2, .int x29), (0, .ref (ad 0)), (1, .int v1), (4, .int v4)] dX8_fill_104 rfl (by decide) rfl ?_
            refine zz_sub [2, 3, 1, 0, 4] [(0, .ref (ad 0)), (1, .int v1), (2, .int x29), (3, .int v4), (4, .int v4)] rfl ?_
            exact zu8_fill_105 K hret hB46 h
        · have h := (And.right h) c24
          refine zz_goto K 105 dX8_fill_66 rfl ?_
          exact zu8_fill_105 K hret hB46 h
  exact key _ v2 v3 v4 σ (Nat.lt_succ_self _) h0
set_option maxHeartbeats 4000000 in
set_option maxRecDepth 100000 in
theorem zu8_fill_0 {p : Program} {l : Launch} {e : Env} {s : State} {m : MethodId} {args : Array Value} {below : List Frame} {meth : Method} {c : Code} {Q : State → Prop} {D : va_G} {A : Nat → Prop} {ad : Nat → Nat} {cy : Nat → ClassId} {v1 : Int32} {σ : zz_St} (K : zz_K p s m args c cX8_fill 5 RX8 wsX8_fill D (tysM cy) A (wM ad cy) []) {Qp : Int32 → zz_St → Prop} (hret : ∀ (r : Int32) (σ2 : zz_St), narrow .int (.int r) = .int r → Qp r σ2 → ∀ (pc : Nat) (lv : List (Nat × Value)), decode cX8_fill pc = .ok (.ireturn, 1) → zz_G p l e zrm8_fill s m args below meth c Q D A (wM ad cy) 5 pc lv [.int r] σ2) (h : zq8_fill v1 σ Qp) : zz_G p l e zrm8_fill s m args below meth c Q D A (wM ad cy) 5 0 [(0, .ref (ad 0)), (1, .int v1)] [] σ := by
  unfold zq8_fill at h
  refine zz_iload_n K 1 dX8_fill_0 rfl rfl ?_
  refine zz_i2l K dX8_fill_1 ?_
  refine zz_lconst K (v := (0 : Int64)) dX8_fill_2 rfl ?_
  refine zz_lconst K (v := (1 : Int64)) dX8_fill_3 rfl ?_
  refine zz_callSi1 K zz_nw_nil [.long (v1.toInt64), .long (0 : Int64), .long (1 : Int64)] (zc8_in l D ad cy (v1.toInt64) (0 : Int64) (1 : Int64) σ _ h) gX8_fill_X8_in rfl ⟨rfl, rfl⟩ zds_yX8_in_s ⟨Nat.le_of_ble_eq_true rfl, Nat.le_of_ble_eq_true rfl⟩ rfl rfl (Nat.le_of_ble_eq_true rfl) dX8_fill_4 (fun r30 h => ?_)
  refine zz_if_ne K 17 dX8_fill_7 rfl (fun c31 => ?_) (fun c31 => ?_)
  · have h := (And.left h) c31
    refine zz_aload_n K 0 dX8_fill_17 rfl rfl ?_
    refine zg8_9 K zin_X8_fill_X8 zlk_X8_fill_1 dX8_fill_18 ?_
    refine zz_if_ne K 31 dX8_fill_21 rfl (fun c32 => ?_) (fun c32 => ?_)
    · have h := (And.left h) c32
      refine zz_aload_n K 0 dX8_fill_31 rfl rfl ?_
      refine zz_callVv K zz_nw_nil [] (zc8_goesThrough l D ad cy  σ _ h) gX8_fill_X8_goesThrough rfl ⟨rfl, rfl⟩ zds_yX8_goesThrough_v ⟨Nat.le_of_ble_eq_true rfl, Nat.le_of_ble_eq_true rfl⟩ (wM_at_0 ad cy _) rfl rfl rfl rfl (Nat.le_of_ble_eq_true rfl) dX8_fill_32 (fun g33 h => ?_)
      refine zz_aload_n K 0 dX8_fill_35 rfl rfl ?_
      refine zg8_27 K zin_X8_fill_X8 zlk_X8_fill_2 dX8_fill_36 ?_
      refine zz_nmi (fun x34 ex34 => ?_)
      have h := h x34 ex34
      refine zz_istore_n K [(2, .int x34), (0, .ref (ad 0)), (1, .int v1)] dX8_fill_39 rfl (by decide) rfl ?_
      refine zz_bipush K dX8_fill_40 zcb_m9 ?_
      refine zz_istore_n K [(3, .int (-9 : Int32)), (2, .int x34), (0, .ref (ad 0)), (1, .int v1)] dX8_fill_42 rfl (by decide) rfl ?_
      refine zz_iconst K dX8_fill_43 zci_0 ?_
      refine zz_istore K [(4, .int (0 : Int32)), (3, .int (-9 : Int32)), (2, .int x34), (0, .ref (ad 0)), (1, .int v1)] dX8_fill_44 (by decide) rfl ?_
      refine zz_sub [3, 4, 2, 1, 0] [(0, .ref (ad 0)), (1, .int v1), (2, .int x34), (3, .int (-9 : Int32)), (4, .int (0 : Int32))] rfl ?_
      exact zu8_fill_46 K hret h
    · have h := (And.right h) c32
      refine zz_aload_n K 0 dX8_fill_24 rfl rfl ?_
      refine zz_bipush K dX8_fill_25 zcb_m3 ?_
      refine zz_callVi K zz_nw_nil [.int (-3 : Int32)] (zc8_no l D ad cy (-3 : Int32) σ _ h) gX8_fill_X8_no rfl ⟨rfl, rfl⟩ zds_yX8_no_v ⟨Nat.le_of_ble_eq_true rfl, Nat.le_of_ble_eq_true rfl⟩ (wM_at_0 ad cy _) rfl rfl rfl rfl (Nat.le_of_ble_eq_true rfl) dX8_fill_27 (fun r35 g36 h => ?_)
      exact hret _ _ rfl h _ _ dX8_fill_30
  · have h := (And.right h) c31
    refine zz_aload_n K 0 dX8_fill_10 rfl rfl ?_
    refine zz_bipush K dX8_fill_11 zcb_m2 ?_
    refine zz_callVi K zz_nw_nil [.int (-2 : Int32)] (zc8_no l D ad cy (-2 : Int32) σ _ h) gX8_fill_X8_no rfl ⟨rfl, rfl⟩ zds_yX8_no_v ⟨Nat.le_of_ble_eq_true rfl, Nat.le_of_ble_eq_true rfl⟩ (wM_at_0 ad cy _) rfl rfl rfl rfl (Nat.le_of_ble_eq_true rfl) dX8_fill_13 (fun r37 g38 h => ?_)
    exact hret _ _ rfl h _ _ dX8_fill_16
set_option maxRecDepth 100000 in
theorem zc8_fill (l : Launch) (D : va_G) (ad : Nat → Nat) (cy : Nat → ClassId) (v1 : Int32) (σ : zz_St) (Qp : Int32 → zz_St → Prop) (h : zq8_fill v1 σ Qp) : zz_Mi l yX8_fill wsX8_fill zrm8_fill D (tysM cy) (wM ad cy) [] [.ref (ad 0), .int v1] σ Qp :=
  zz_Mi.of zz_nw_nil (wM_ad ad cy) (by decide +kernel) rfl ⟨rfl, rfl⟩ (Nat.le_of_ble_eq_true rfl) (fun p e s m args below meth c A QW K hret => zu8_fill_0 K  hret h)
theorem zin_X8_needed_X8 : ∀ w ∈ wsX80, w ∈ wsX8_needed := fun w h => List.mem_cons_of_mem _ (List.mem_append_right _ h)
theorem zlk_X8_needed_1 : Cond.fieldLink RX8 38 "SolidsRolledModel" "isThere" "Z" ∈ wsX8_needed := List.mem_of_getElem? (i := 1) rfl
theorem zlk_X8_needed_2 : Cond.fieldLink RX8 29 "SolidsRolledModel" "tiles" "[I" ∈ wsX8_needed := List.mem_of_getElem? (i := 2) rfl
theorem zds_yX8_longNo_v : yX8_longNo.cls = RX8 ∧ yX8_longNo.cls ≠ "java/lang/invoke/MethodHandle" ∧ yX8_longNo.cls ≠ "java/lang/invoke/VarHandle" ∧ (parseMethodDescriptor yX8_longNo.desc).map (fun d => d.parameters.length) = some 1 := by decide +kernel
abbrev zrm8_needed : Room := { frames := 6, cells := 0, slots := 0, locals := 137 }
set_option maxHeartbeats 4000000 in
set_option maxRecDepth 100000 in
theorem zu8_needed_140 {p : Program} {l : Launch} {e : Env} {s : State} {m : MethodId} {args : Array Value} {below : List Frame} {meth : Method} {c : Code} {Q : State → Prop} {D : va_G} {A : Nat → Prop} {ad : Nat → Nat} {cy : Nat → ClassId} {v1 : Int32} {v2 : Int32} {v3 : Int64} {v5 : Int32} {σ : zz_St} (K : zz_K p s m args c cX8_needed 8 RX8 wsX8_needed D (tysM cy) A (wM ad cy) []) {Qp : Int64 → zz_St → Prop} (hret : ∀ (r : Int64) (σ2 : zz_St), Qp r σ2 → ∀ (pc : Nat) (lv : List (Nat × Value)), decode cX8_needed pc = .ok (.lreturn, 1) → zz_G p l e zrm8_needed s m args below meth c Q D A (wM ad cy) 8 pc lv [.long r] σ2) {B44 : Int64 → Int32 → zz_St → Prop} (hB44 : ∀ (v3' : Int64) (v5' : Int32) (σ' : zz_St), B44 v3' v5' σ' → zz_G p l e zrm8_needed s m args below meth c Q D A (wM ad cy) 8 44 [(0, .ref (ad 0)), (1, .int v1), (2, .int v2), (3, .long v3'), (5, .int v5')] [] σ') (h : zq8_needed_140 v1 v2 v3 v5 σ Qp B44) : zz_G p l e zrm8_needed s m args below meth c Q D A (wM ad cy) 8 140 [(0, .ref (ad 0)), (1, .int v1), (2, .int v2), (3, .long v3), (5, .int v5)] [] σ := by
  unfold zq8_needed_140 at h
  refine zz_iinc K 4 [(5, .int (v5 + (1 : Int32))), (0, .ref (ad 0)), (1, .int v1), (2, .int v2), (3, .long v3)] dX8_needed_140 zci_1 rfl (by decide) rfl ?_
  refine zz_goto K 44 dX8_needed_143 rfl ?_
  refine zz_sub [1, 2, 3, 4, 0] [(0, .ref (ad 0)), (1, .int v1), (2, .int v2), (3, .long v3), (5, .int (v5 + (1 : Int32)))] rfl ?_
  exact hB44 v3 (v5 + (1 : Int32)) σ h
set_option maxHeartbeats 4000000 in
set_option maxRecDepth 100000 in
theorem zu8_needed_133 {p : Program} {l : Launch} {e : Env} {s : State} {m : MethodId} {args : Array Value} {below : List Frame} {meth : Method} {c : Code} {Q : State → Prop} {D : va_G} {A : Nat → Prop} {ad : Nat → Nat} {cy : Nat → ClassId} {v1 : Int32} {v2 : Int32} {v3 : Int64} {v5 : Int32} {σ : zz_St} (K : zz_K p s m args c cX8_needed 8 RX8 wsX8_needed D (tysM cy) A (wM ad cy) []) {Qp : Int64 → zz_St → Prop} (hret : ∀ (r : Int64) (σ2 : zz_St), Qp r σ2 → ∀ (pc : Nat) (lv : List (Nat × Value)), decode cX8_needed pc = .ok (.lreturn, 1) → zz_G p l e zrm8_needed s m args below meth c Q D A (wM ad cy) 8 pc lv [.long r] σ2) {B44 : Int64 → Int32 → zz_St → Prop} (hB44 : ∀ (v3' : Int64) (v5' : Int32) (σ' : zz_St), B44 v3' v5' σ' → zz_G p l e zrm8_needed s m args below meth c Q D A (wM ad cy) 8 44 [(0, .ref (ad 0)), (1, .int v1), (2, .int v2), (3, .long v3'), (5, .int v5')] [] σ') (h : zq8_needed_133 v1 v2 v3 v5 σ Qp B44) : zz_G p l e zrm8_needed s m args below meth c Q D A (wM ad cy) 8 133 [(0, .ref (ad 0)), (1, .int v1), (2, .int v2), (3, .long v3), (5, .int v5)] [] σ := by
  unfold zq8_needed_133 at h
  refine zz_lload_n K 3 dX8_needed_133 rfl rfl ?_
  refine zz_lconst K (v := (1 : Int64)) dX8_needed_134 rfl ?_
  refine zz_iload K 4 dX8_needed_135 rfl ?_
  refine zz_lshl K dX8_needed_137 ?_
  refine zz_lor K dX8_needed_138 ?_
  refine zz_nml (fun x27 ex27 => ?_)
  have h := h x27 ex27
  refine zz_lstore_n K [(3, .long x27), (0, .ref (ad 0)), (1, .int v1), (2, .int v2), (5, .int v5)] dX8_needed_139 rfl (by decide) rfl ?_
  refine zz_sub [1, 2, 3, 0, 4] [(0, .ref (ad 0)), (1, .int v1), (2, .int v2), (3, .long x27), (5, .int v5)] rfl ?_
  exact zu8_needed_140 K hret hB44 h
set_option maxHeartbeats 4000000 in
set_option maxRecDepth 100000 in
theorem zu8_needed_44 {p : Program} {l : Launch} {e : Env} {s : State} {m : MethodId} {args : Array Value} {below : List Frame} {meth : Method} {c : Code} {Q : State → Prop} {D : va_G} {A : Nat → Prop} {ad : Nat → Nat} {cy : Nat → ClassId} {v1 : Int32} {v2 : Int32} {v3 : Int64} {v5 : Int32} {σ : zz_St} (K : zz_K p s m args c cX8_needed 8 RX8 wsX8_needed D (tysM cy) A (wM ad cy) []) {Qp : Int64 → zz_St → Prop} (hret : ∀ (r : Int64) (σ2 : zz_St), Qp r σ2 → ∀ (pc : Nat) (lv : List (Nat × Value)), decode cX8_needed pc = .ok (.lreturn, 1) → zz_G p l e zrm8_needed s m args below meth c Q D A (wM ad cy) 8 pc lv [.long r] σ2) (h : zq8_needed_44 v1 v2 v3 v5 σ Qp) : zz_G p l e zrm8_needed s m args below meth c Q D A (wM ad cy) 8 44 [(0, .ref (ad 0)), (1, .int v1), (2, .int v2), (3, .long v3), (5, .int v5)] [] σ := by
  unfold zq8_needed_44 at h
  obtain ⟨I44, M44, h0, hs⟩ := h
  have key : ∀ (n : Nat) (v3 : Int64) (v5 : Int32) (σ : zz_St), M44 v3 v5 σ < n → I44 v3 v5 σ → zz_G p l e zrm8_needed s m args below meth c Q D A (wM ad cy) 8 44 [(0, .ref (ad 0)), (1, .int v1), (2, .int v2), (3, .long v3), (5, .int v5)] [] σ := by
    intro n
    induction n with
    | zero => intro v3 v5 σ hlt; exact absurd hlt (Nat.not_lt_zero _)
    | succ n ih =>
      intro v3 v5 σ hlt hI
      have h := hs v3 v5 σ hI
      have hB44 : ∀ (v3' : Int64) (v5' : Int32) (σ' : zz_St), (fun v3' v5' σ' => I44 v3' v5' σ' ∧ M44 v3' v5' σ' < M44 v3 v5 σ) v3' v5' σ' → zz_G p l e zrm8_needed s m args below meth c Q D A (wM ad cy) 8 44 [(0, .ref (ad 0)), (1, .int v1), (2, .int v2), (3, .long v3'), (5, .int v5')] [] σ' := fun v3' v5' σ' hz => ih v3' v5' σ' (Nat.lt_of_lt_of_le hz.2 (Nat.le_of_lt_succ hlt)) hz.1
      refine zz_iload K 4 dX8_needed_44 rfl ?_
      refine zz_aload_n K 0 dX8_needed_46 rfl rfl ?_
      refine zz_callVi1 K zz_nw_nil [] (zc8_tileMany l D ad cy  σ _ h) gX8_needed_X8_tileMany rfl ⟨rfl, rfl⟩ zds_yX8_tileMany_v ⟨Nat.le_of_ble_eq_true rfl, Nat.le_of_ble_eq_true rfl⟩ (wM_at_0 ad cy _) rfl rfl rfl rfl (Nat.le_of_ble_eq_true rfl) dX8_needed_47 (fun r28 h => ?_)
      refine zz_icmp_ge K 146 dX8_needed_50 rfl (fun c29 => ?_) (fun c29 => ?_)
      · have h := (And.left h) c29
        refine zz_lload_n K 3 dX8_needed_146 rfl rfl ?_
        exact hret _ _ h _ _ dX8_needed_147
      · have h := (And.right h) c29
        refine zz_iload_n K 2 dX8_needed_53 rfl rfl ?_
        refine zz_bipush K dX8_needed_54 zcb_m9 ?_
        refine zz_icmp_eq K 146 dX8_needed_56 rfl (fun c30 => ?_) (fun c30 => ?_)
        · have h := (And.left h) c30
          refine zz_lload_n K 3 dX8_needed_146 rfl rfl ?_
          exact hret _ _ h _ _ dX8_needed_147
        · have h := (And.right h) c30
          refine zz_aload_n K 0 dX8_needed_59 rfl rfl ?_
          refine zz_iload K 4 dX8_needed_60 rfl ?_
          refine zz_callVi K zz_nw_nil [.int v5] (zc8_isUnder l D ad cy v5 σ _ h) gX8_needed_X8_isUnder rfl ⟨rfl, rfl⟩ zds_yX8_isUnder_v ⟨Nat.le_of_ble_eq_true rfl, Nat.le_of_ble_eq_true rfl⟩ (wM_at_0 ad cy _) rfl rfl rfl rfl (Nat.le_of_ble_eq_true rfl) dX8_needed_62 (fun r31 g32 h => ?_)
          refine zz_if_ne K 140 dX8_needed_65 rfl (fun c33 => ?_) (fun c33 => ?_)
          · have h := (And.left h) c33
            exact zu8_needed_140 K hret hB44 h
          · have h := (And.right h) c33
            refine zz_aload_n K 0 dX8_needed_68 rfl rfl ?_
            refine zg8_4 K zin_X8_needed_X8 zlk_X8_needed_2 dX8_needed_69 ?_
            refine zz_iload K 4 dX8_needed_72 rfl ?_
            obtain ⟨hin, h⟩ := h
            refine zz_iaload K 0 (wM_at_4 ad cy g32) rfl hin dX8_needed_74 ?_
            refine zz_iconst K dX8_needed_75 zci_1 ?_
            refine zz_icmp_ne K 82 dX8_needed_76 rfl (fun c34 => ?_) (fun c34 => ?_)
            · have h := (And.left h) c34
              refine zz_aload_n K 0 dX8_needed_82 rfl rfl ?_
              refine zg8_4 K zin_X8_needed_X8 zlk_X8_needed_2 dX8_needed_83 ?_
              refine zz_iload K 4 dX8_needed_86 rfl ?_
              obtain ⟨hin, h⟩ := h
              refine zz_iaload K 0 (wM_at_4 ad cy g32) rfl hin dX8_needed_88 ?_
              refine zz_nmi (fun x35 ex35 => ?_)
              have h := h x35 ex35
              refine zz_istore K [(6, .int x35), (0, .ref (ad 0)), (1, .int v1), (2, .int v2), (3, .long v3), (5, .int v5)] dX8_needed_89 (by decide) rfl ?_
              refine zz_aload_n K 1 dX8_needed_91 rfl rfl ?_
              refine zg8_4 K zin_X8_needed_X8 zlk_X8_needed_2 dX8_needed_92 ?_
              refine zz_iload K 5 dX8_needed_95 rfl ?_
              refine zz_iconst K dX8_needed_97 zci_1 ?_
              obtain ⟨hin, h⟩ := h
              refine zz_iastore K 0 (σ2 := zz_A g32 4 (upd (g32.2.1 4) v5.toNatClampNeg (1 : Int32))) (wM_at_4 ad cy g32) (wM_set_4 ad cy g32 _) rfl hin dX8_needed_98 ?_
              refine zz_nms (fun g36 eg36 => ?_)
              have h := h g36 eg36
              refine zz_aload_n K 1 dX8_needed_99 rfl rfl ?_
              refine zz_callVv K zz_nw_nil [] (zc8_goesThrough l D ad cy  g36 _ h) gX8_needed_X8_goesThrough rfl ⟨rfl, rfl⟩ zds_yX8_goesThrough_v ⟨Nat.le_of_ble_eq_true rfl, Nat.le_of_ble_eq_true rfl⟩ (wM_at_0 ad cy _) rfl rfl rfl rfl (Nat.le_of_ble_eq_true rfl) dX8_needed_100 (fun g37 h => ?_)
              refine zz_aload_n K 1 dX8_needed_103 rfl rfl ?_
              refine zz_iload_n K 2 dX8_needed_104 rfl rfl ?_
              refine zz_iconst K dX8_needed_105 zci_m1 ?_
              refine zz_callVi K zz_nw_nil [.int v1, .int (-1 : Int32)] (zc8_soonestTo l D ad cy v1 (-1 : Int32) g37 _ h) gX8_needed_X8_soonestTo rfl ⟨rfl, rfl⟩ zds_yX8_soonestTo_v ⟨Nat.le_of_ble_eq_true rfl, Nat.le_of_ble_eq_true rfl⟩ (wM_at_0 ad cy _) rfl rfl rfl rfl (Nat.le_of_ble_eq_true rfl) dX8_needed_106 (fun r38 g39 h => ?_)
              refine zz_istore K [(7, .int r38), (6, .int x35), (0, .ref (ad 0)), (1, .int v1), (2, .int v2), (3, .long v3), (5, .int v5)] dX8_needed_109 (by decide) rfl ?_
              refine zz_aload_n K 2 dX8_needed_111 rfl rfl ?_
              refine zg8_4 K zin_X8_needed_X8 zlk_X8_needed_2 dX8_needed_112 ?_
              refine zz_iload K 6 dX8_needed_115 rfl ?_
              refine zz_iload K 1 dX8_needed_117 rfl ?_
              obtain ⟨hin, h⟩ := h
              refine zz_iastore K 0 (σ2 := zz_A g39 4 (upd (g39.2.1 4) v5.toNatClampNeg x35)) (wM_at_4 ad cy g39) (wM_set_4 ad cy g39 _) rfl hin dX8_needed_119 ?_
              refine zz_nms (fun g40 eg40 => ?_)
              have h := h g40 eg40
              refine zz_iload K 0 dX8_needed_120 rfl ?_
              refine zz_bipush K dX8_needed_122 zcb_m9 ?_
              refine zz_icmp_eq K 133 dX8_needed_124 rfl (fun c41 => ?_) (fun c41 => ?_)
              · have h := (And.left h) c41
                refine zz_sub [2, 3, 4, 5, 6] [(0, .ref (ad 0)), (1, .int v1), (2, .int v2), (3, .long v3), (5, .int v5)] rfl ?_
                exact zu8_needed_133 K hret hB44 h
              · have h := (And.right h) c41
                refine zz_iload K 0 dX8_needed_127 rfl ?_
                refine zz_iload_n K 4 dX8_needed_129 rfl rfl ?_
                refine zz_icmp_le K 140 dX8_needed_130 rfl (fun c42 => ?_) (fun c42 => ?_)
                · have h := (And.left h) c42
                  refine zz_sub [2, 3, 4, 5, 6] [(0, .ref (ad 0)), (1, .int v1), (2, .int v2), (3, .long v3), (5, .int v5)] rfl ?_
                  exact zu8_needed_140 K hret hB44 h
                · have h := (And.right h) c42
                  refine zz_sub [2, 3, 4, 5, 6] [(0, .ref (ad 0)), (1, .int v1), (2, .int v2), (3, .long v3), (5, .int v5)] rfl ?_
                  exact zu8_needed_133 K hret hB44 h
            · have h := (And.right h) c34
              refine zz_goto K 140 dX8_needed_79 rfl ?_
              exact zu8_needed_140 K hret hB44 h
  exact key _ v3 v5 σ (Nat.lt_succ_self _) h0
set_option maxHeartbeats 4000000 in
set_option maxRecDepth 100000 in
theorem zu8_needed_0 {p : Program} {l : Launch} {e : Env} {s : State} {m : MethodId} {args : Array Value} {below : List Frame} {meth : Method} {c : Code} {Q : State → Prop} {D : va_G} {A : Nat → Prop} {ad : Nat → Nat} {cy : Nat → ClassId} {v1 : Int32} {σ : zz_St} (K : zz_K p s m args c cX8_needed 8 RX8 wsX8_needed D (tysM cy) A (wM ad cy) []) {Qp : Int64 → zz_St → Prop} (hret : ∀ (r : Int64) (σ2 : zz_St), Qp r σ2 → ∀ (pc : Nat) (lv : List (Nat × Value)), decode cX8_needed pc = .ok (.lreturn, 1) → zz_G p l e zrm8_needed s m args below meth c Q D A (wM ad cy) 8 pc lv [.long r] σ2) (h : zq8_needed v1 σ Qp) : zz_G p l e zrm8_needed s m args below meth c Q D A (wM ad cy) 8 0 [(0, .ref (ad 0)), (1, .int v1)] [] σ := by
  unfold zq8_needed at h
  refine zz_aload_n K 0 dX8_needed_0 rfl rfl ?_
  refine zz_iload_n K 1 dX8_needed_1 rfl rfl ?_
  refine zz_callVi1 K zz_nw_nil [.int v1] (zc8_isPlace l D ad cy v1 σ _ h) gX8_needed_X8_isPlace rfl ⟨rfl, rfl⟩ zds_yX8_isPlace_v ⟨Nat.le_of_ble_eq_true rfl, Nat.le_of_ble_eq_true rfl⟩ (wM_at_0 ad cy _) rfl rfl rfl rfl (Nat.le_of_ble_eq_true rfl) dX8_needed_2 (fun r43 h => ?_)
  refine zz_if_ne K 14 dX8_needed_5 rfl (fun c44 => ?_) (fun c44 => ?_)
  · have h := (And.left h) c44
    refine zz_aload_n K 0 dX8_needed_14 rfl rfl ?_
    refine zg8_9 K zin_X8_needed_X8 zlk_X8_needed_1 dX8_needed_15 ?_
    refine zz_if_ne K 28 dX8_needed_18 rfl (fun c45 => ?_) (fun c45 => ?_)
    · have h := (And.left h) c45
      refine zz_aload_n K 0 dX8_needed_28 rfl rfl ?_
      refine zz_callVv K zz_nw_nil [] (zc8_goesThrough l D ad cy  σ _ h) gX8_needed_X8_goesThrough rfl ⟨rfl, rfl⟩ zds_yX8_goesThrough_v ⟨Nat.le_of_ble_eq_true rfl, Nat.le_of_ble_eq_true rfl⟩ (wM_at_0 ad cy _) rfl rfl rfl rfl (Nat.le_of_ble_eq_true rfl) dX8_needed_29 (fun g46 h => ?_)
      refine zz_aload_n K 0 dX8_needed_32 rfl rfl ?_
      refine zz_iload_n K 1 dX8_needed_33 rfl rfl ?_
      refine zz_iconst K dX8_needed_34 zci_m1 ?_
      refine zz_callVi K zz_nw_nil [.int v1, .int (-1 : Int32)] (zc8_soonestTo l D ad cy v1 (-1 : Int32) g46 _ h) gX8_needed_X8_soonestTo rfl ⟨rfl, rfl⟩ zds_yX8_soonestTo_v ⟨Nat.le_of_ble_eq_true rfl, Nat.le_of_ble_eq_true rfl⟩ (wM_at_0 ad cy _) rfl rfl rfl rfl (Nat.le_of_ble_eq_true rfl) dX8_needed_35 (fun r47 g48 h => ?_)
      refine zz_istore_n K [(2, .int r47), (0, .ref (ad 0)), (1, .int v1)] dX8_needed_38 rfl (by decide) rfl ?_
      refine zz_lconst K (v := (0 : Int64)) dX8_needed_39 rfl ?_
      refine zz_lstore_n K [(3, .long (0 : Int64)), (2, .int r47), (0, .ref (ad 0)), (1, .int v1)] dX8_needed_40 rfl (by decide) rfl ?_
      refine zz_iconst K dX8_needed_41 zci_0 ?_
      refine zz_istore K [(5, .int (0 : Int32)), (3, .long (0 : Int64)), (2, .int r47), (0, .ref (ad 0)), (1, .int v1)] dX8_needed_42 (by decide) rfl ?_
      refine zz_sub [3, 4, 2, 1, 0] [(0, .ref (ad 0)), (1, .int v1), (2, .int r47), (3, .long (0 : Int64)), (5, .int (0 : Int32))] rfl ?_
      exact zu8_needed_44 K hret h
    · have h := (And.right h) c45
      refine zz_aload_n K 0 dX8_needed_21 rfl rfl ?_
      refine zz_bipush K dX8_needed_22 zcb_m3 ?_
      refine zz_callVl K zz_nw_nil [.int (-3 : Int32)] (zc8_longNo l D ad cy (-3 : Int32) σ _ h) gX8_needed_X8_longNo rfl ⟨rfl, rfl⟩ zds_yX8_longNo_v ⟨Nat.le_of_ble_eq_true rfl, Nat.le_of_ble_eq_true rfl⟩ (wM_at_0 ad cy _) rfl rfl rfl rfl (Nat.le_of_ble_eq_true rfl) dX8_needed_24 (fun r49 g50 h => ?_)
      exact hret _ _ h _ _ dX8_needed_27
  · have h := (And.right h) c44
    refine zz_aload_n K 0 dX8_needed_8 rfl rfl ?_
    refine zz_iconst K dX8_needed_9 zci_m1 ?_
    refine zz_callVl K zz_nw_nil [.int (-1 : Int32)] (zc8_longNo l D ad cy (-1 : Int32) σ _ h) gX8_needed_X8_longNo rfl ⟨rfl, rfl⟩ zds_yX8_longNo_v ⟨Nat.le_of_ble_eq_true rfl, Nat.le_of_ble_eq_true rfl⟩ (wM_at_0 ad cy _) rfl rfl rfl rfl (Nat.le_of_ble_eq_true rfl) dX8_needed_10 (fun r51 g52 h => ?_)
    exact hret _ _ h _ _ dX8_needed_13
set_option maxRecDepth 100000 in
theorem zc8_needed (l : Launch) (D : va_G) (ad : Nat → Nat) (cy : Nat → ClassId) (v1 : Int32) (σ : zz_St) (Qp : Int64 → zz_St → Prop) (h : zq8_needed v1 σ Qp) : zz_Ml l yX8_needed wsX8_needed zrm8_needed D (tysM cy) (wM ad cy) [] [.ref (ad 0), .int v1] σ Qp :=
  zz_Ml.of zz_nw_nil (wM_ad ad cy) (by decide +kernel) rfl ⟨rfl, rfl⟩ (Nat.le_of_ble_eq_true rfl) (fun p e s m args below meth c A QW K hret => zu8_needed_0 K  hret h)
abbrev zrm8_paints : Room := { frames := 4, cells := 0, slots := 0, locals := 89 }
set_option maxHeartbeats 4000000 in
set_option maxRecDepth 100000 in
theorem zu8_paints_0 {p : Program} {l : Launch} {e : Env} {s : State} {m : MethodId} {args : Array Value} {below : List Frame} {meth : Method} {c : Code} {Q : State → Prop} {D : va_G} {A : Nat → Prop} {ad : Nat → Nat} {cy : Nat → ClassId} {v1 : Int32} {v2 : Int32} {v3 : Int32} {σ : zz_St} (K : zz_K p s m args c cX8_paints 5 RX8 wsX8_paints D (tysM cy) A (wM ad cy) []) {Qp : Int32 → zz_St → Prop} (hret : ∀ (r : Int32) (σ2 : zz_St), narrow .boolean (.int r) = .int r → Qp r σ2 → ∀ (pc : Nat) (lv : List (Nat × Value)), decode cX8_paints pc = .ok (.ireturn, 1) → zz_G p l e zrm8_paints s m args below meth c Q D A (wM ad cy) 5 pc lv [.int r] σ2) (h : zq8_paints v1 v2 v3 σ Qp) : zz_G p l e zrm8_paints s m args below meth c Q D A (wM ad cy) 5 0 [(0, .ref (ad 0)), (1, .int v1), (2, .int v2), (3, .int v3)] [] σ := by
  unfold zq8_paints at h
  refine zz_aload_n K 0 dX8_paints_0 rfl rfl ?_
  refine zz_iload_n K 1 dX8_paints_1 rfl rfl ?_
  refine zz_callVi1 K zz_nw_nil [.int v1] (zc8_belowOf l D ad cy v1 σ _ h) gX8_paints_X8_belowOf rfl ⟨rfl, rfl⟩ zds_yX8_belowOf_v ⟨Nat.le_of_ble_eq_true rfl, Nat.le_of_ble_eq_true rfl⟩ (wM_at_0 ad cy _) rfl rfl rfl rfl (Nat.le_of_ble_eq_true rfl) dX8_paints_2 (fun r8 h => ?_)
  refine zz_iload_n K 3 dX8_paints_5 rfl rfl ?_
  refine zz_icmp_eq K 11 dX8_paints_6 rfl (fun c9 => ?_) (fun c9 => ?_)
  · have h := (And.left h) c9
    refine zz_aload_n K 0 dX8_paints_11 rfl rfl ?_
    refine zz_callVv K zz_nw_nil [] (zc8_keeps2 l D ad cy  σ _ h) gX8_paints_X8_keeps2 rfl ⟨rfl, rfl⟩ zds_yX8_keeps2_v ⟨Nat.le_of_ble_eq_true rfl, Nat.le_of_ble_eq_true rfl⟩ (wM_at_0 ad cy _) rfl rfl rfl rfl (Nat.le_of_ble_eq_true rfl) dX8_paints_12 (fun g10 h => ?_)
    refine zz_aload_n K 0 dX8_paints_15 rfl rfl ?_
    refine zz_iload_n K 1 dX8_paints_16 rfl rfl ?_
    refine zz_callVv K zz_nw_nil [.int v1] (zc8_loads l D ad cy v1 g10 _ h) gX8_paints_X8_loads rfl ⟨rfl, rfl⟩ zds_yX8_loads_v ⟨Nat.le_of_ble_eq_true rfl, Nat.le_of_ble_eq_true rfl⟩ (wM_at_0 ad cy _) rfl rfl rfl rfl (Nat.le_of_ble_eq_true rfl) dX8_paints_17 (fun g11 h => ?_)
    refine zz_aload_n K 0 dX8_paints_20 rfl rfl ?_
    refine zz_iload_n K 2 dX8_paints_21 rfl rfl ?_
    refine zz_callVi K zz_nw_nil [.int v2] (zc8_isUnder l D ad cy v2 g11 _ h) gX8_paints_X8_isUnder rfl ⟨rfl, rfl⟩ zds_yX8_isUnder_v ⟨Nat.le_of_ble_eq_true rfl, Nat.le_of_ble_eq_true rfl⟩ (wM_at_0 ad cy _) rfl rfl rfl rfl (Nat.le_of_ble_eq_true rfl) dX8_paints_22 (fun r12 g13 h => ?_)
    refine zz_istore K [(4, .int r12), (0, .ref (ad 0)), (1, .int v1), (2, .int v2), (3, .int v3)] dX8_paints_25 (by decide) rfl ?_
    refine zz_aload_n K 1 dX8_paints_27 rfl rfl ?_
    refine zz_callVv K zz_nw_nil [] (zc8_lays2 l D ad cy  g13 _ h) gX8_paints_X8_lays2 rfl ⟨rfl, rfl⟩ zds_yX8_lays2_v ⟨Nat.le_of_ble_eq_true rfl, Nat.le_of_ble_eq_true rfl⟩ (wM_at_0 ad cy _) rfl rfl rfl rfl (Nat.le_of_ble_eq_true rfl) dX8_paints_28 (fun g14 h => ?_)
    refine zz_iload K 0 dX8_paints_31 rfl ?_
    obtain ⟨hnb, h⟩ := h
    exact hret _ _ (zz_nb hnb) h _ _ dX8_paints_33
  · have h := (And.right h) c9
    refine zz_iconst K dX8_paints_9 zci_0 ?_
    exact hret _ _ rfl h _ _ dX8_paints_10
set_option maxRecDepth 100000 in
theorem zc8_paints (l : Launch) (D : va_G) (ad : Nat → Nat) (cy : Nat → ClassId) (v1 : Int32) (v2 : Int32) (v3 : Int32) (σ : zz_St) (Qp : Int32 → zz_St → Prop) (h : zq8_paints v1 v2 v3 σ Qp) : zz_Mi l yX8_paints wsX8_paints zrm8_paints D (tysM cy) (wM ad cy) [] [.ref (ad 0), .int v1, .int v2, .int v3] σ Qp :=
  zz_Mi.of zz_nw_nil (wM_ad ad cy) (by decide +kernel) rfl ⟨rfl, rfl⟩ (Nat.le_of_ble_eq_true rfl) (fun p e s m args below meth c A QW K hret => zu8_paints_0 K  hret h)
theorem zin_X8_paint_X8 : ∀ w ∈ wsX80, w ∈ wsX8_paint := fun w h => List.mem_cons_of_mem _ (List.mem_append_right _ h)
theorem zlk_X8_paint_1 : Cond.fieldLink RX8 38 "SolidsRolledModel" "isThere" "Z" ∈ wsX8_paint := List.mem_of_getElem? (i := 1) rfl
theorem zlk_X8_paint_2 : Cond.fieldLink RX8 32 "SolidsRolledModel" "prints" "[I" ∈ wsX8_paint := List.mem_of_getElem? (i := 2) rfl
theorem zlk_X8_paint_3 : Cond.fieldLink RX8 254 "SolidsRolledModel" "returns" "I" ∈ wsX8_paint := List.mem_of_getElem? (i := 3) rfl
theorem zlk_X8_paint_4 : Cond.fieldLink RX8 251 "SolidsRolledModel" "many" "I" ∈ wsX8_paint := List.mem_of_getElem? (i := 4) rfl
theorem zlk_X8_paint_5 : Cond.fieldLink RX8 69 "SolidsRolledModel" "far" "[I" ∈ wsX8_paint := List.mem_of_getElem? (i := 5) rfl
theorem zds_yX8_paints_v : yX8_paints.cls = RX8 ∧ yX8_paints.cls ≠ "java/lang/invoke/MethodHandle" ∧ yX8_paints.cls ≠ "java/lang/invoke/VarHandle" ∧ (parseMethodDescriptor yX8_paints.desc).map (fun d => d.parameters.length) = some 3 := by decide +kernel
abbrev zrm8_paint : Room := { frames := 6, cells := 0, slots := 0, locals := 137 }
set_option maxHeartbeats 4000000 in
set_option maxRecDepth 100000 in
theorem zu8_paint_16 {p : Program} {l : Launch} {e : Env} {s : State} {m : MethodId} {args : Array Value} {below : List Frame} {meth : Method} {c : Code} {Q : State → Prop} {D : va_G} {A : Nat → Prop} {ad : Nat → Nat} {cy : Nat → ClassId}  {σ : zz_St} (K : zz_K p s m args c cX8_paint 5 RX8 wsX8_paint D (tysM cy) A (wM ad cy) []) {Qp : Int32 → zz_St → Prop} (hret : ∀ (r : Int32) (σ2 : zz_St), narrow .int (.int r) = .int r → Qp r σ2 → ∀ (pc : Nat) (lv : List (Nat × Value)), decode cX8_paint pc = .ok (.ireturn, 1) → zz_G p l e zrm8_paint s m args below meth c Q D A (wM ad cy) 5 pc lv [.int r] σ2) (h : zq8_paint_16 σ Qp) : zz_G p l e zrm8_paint s m args below meth c Q D A (wM ad cy) 5 16 [(0, .ref (ad 0))] [] σ := by
  unfold zq8_paint_16 at h
  refine zz_aload_n K 0 dX8_paint_16 rfl rfl ?_
  refine zz_iconst K dX8_paint_17 zci_m1 ?_
  refine zz_callVi K zz_nw_nil [.int (-1 : Int32)] (zc8_no l D ad cy (-1 : Int32) σ _ h) gX8_paint_X8_no rfl ⟨rfl, rfl⟩ zds_yX8_no_v ⟨Nat.le_of_ble_eq_true rfl, Nat.le_of_ble_eq_true rfl⟩ (wM_at_0 ad cy _) rfl rfl rfl rfl (Nat.le_of_ble_eq_true rfl) dX8_paint_18 (fun r23 g24 h => ?_)
  exact hret _ _ rfl h _ _ dX8_paint_21
set_option maxHeartbeats 4000000 in
set_option maxRecDepth 100000 in
theorem zu8_paint_118 {p : Program} {l : Launch} {e : Env} {s : State} {m : MethodId} {args : Array Value} {below : List Frame} {meth : Method} {c : Code} {Q : State → Prop} {D : va_G} {A : Nat → Prop} {ad : Nat → Nat} {cy : Nat → ClassId} {v1 : Int32} {v2 : Int32} {v3 : Int32} {v4 : Int32} {σ : zz_St} (K : zz_K p s m args c cX8_paint 5 RX8 wsX8_paint D (tysM cy) A (wM ad cy) []) {Qp : Int32 → zz_St → Prop} (hret : ∀ (r : Int32) (σ2 : zz_St), narrow .int (.int r) = .int r → Qp r σ2 → ∀ (pc : Nat) (lv : List (Nat × Value)), decode cX8_paint pc = .ok (.ireturn, 1) → zz_G p l e zrm8_paint s m args below meth c Q D A (wM ad cy) 5 pc lv [.int r] σ2) {B74 : Int32 → Int32 → zz_St → Prop} (hB74 : ∀ (v3' : Int32) (v4' : Int32) (σ' : zz_St), B74 v3' v4' σ' → zz_G p l e zrm8_paint s m args below meth c Q D A (wM ad cy) 5 74 [(0, .ref (ad 0)), (1, .int v1), (2, .int v2), (3, .int v3'), (4, .int v4')] [] σ') (h : zq8_paint_118 v1 v2 v3 v4 σ Qp B74) : zz_G p l e zrm8_paint s m args below meth c Q D A (wM ad cy) 5 118 [(0, .ref (ad 0)), (1, .int v1), (2, .int v2), (3, .int v3), (4, .int v4)] [] σ := by
  unfold zq8_paint_118 at h
  refine zz_iinc K 4 [(4, .int (v4 + (1 : Int32))), (0, .ref (ad 0)), (1, .int v1), (2, .int v2), (3, .int v3)] dX8_paint_118 zci_1 rfl (by decide) rfl ?_
  refine zz_goto K 74 dX8_paint_121 rfl ?_
  refine zz_sub [1, 2, 3, 4, 0] [(0, .ref (ad 0)), (1, .int v1), (2, .int v2), (3, .int v3), (4, .int (v4 + (1 : Int32)))] rfl ?_
  exact hB74 v3 (v4 + (1 : Int32)) σ h
set_option maxHeartbeats 4000000 in
set_option maxRecDepth 100000 in
theorem zu8_paint_99 {p : Program} {l : Launch} {e : Env} {s : State} {m : MethodId} {args : Array Value} {below : List Frame} {meth : Method} {c : Code} {Q : State → Prop} {D : va_G} {A : Nat → Prop} {ad : Nat → Nat} {cy : Nat → ClassId} {v1 : Int32} {v2 : Int32} {v3 : Int32} {v4 : Int32} {σ : zz_St} (K : zz_K p s m args c cX8_paint 5 RX8 wsX8_paint D (tysM cy) A (wM ad cy) []) {Qp : Int32 → zz_St → Prop} (hret : ∀ (r : Int32) (σ2 : zz_St), narrow .int (.int r) = .int r → Qp r σ2 → ∀ (pc : Nat) (lv : List (Nat × Value)), decode cX8_paint pc = .ok (.ireturn, 1) → zz_G p l e zrm8_paint s m args below meth c Q D A (wM ad cy) 5 pc lv [.int r] σ2) {B74 : Int32 → Int32 → zz_St → Prop} (hB74 : ∀ (v3' : Int32) (v4' : Int32) (σ' : zz_St), B74 v3' v4' σ' → zz_G p l e zrm8_paint s m args below meth c Q D A (wM ad cy) 5 74 [(0, .ref (ad 0)), (1, .int v1), (2, .int v2), (3, .int v3'), (4, .int v4')] [] σ') (h : zq8_paint_99 v1 v2 v3 v4 σ Qp B74) : zz_G p l e zrm8_paint s m args below meth c Q D A (wM ad cy) 5 99 [(0, .ref (ad 0)), (1, .int v1), (2, .int v2), (3, .int v3), (4, .int v4)] [] σ := by
  unfold zq8_paint_99 at h
  refine zz_aload_n K 0 dX8_paint_99 rfl rfl ?_
  refine zz_iload K 4 dX8_paint_100 rfl ?_
  refine zz_iload_n K 1 dX8_paint_102 rfl rfl ?_
  refine zz_iload_n K 2 dX8_paint_103 rfl rfl ?_
  refine zz_callVi K zz_nw_nil [.int v4, .int v1, .int v2] (zc8_paints l D ad cy v4 v1 v2 σ _ h) gX8_paint_X8_paints rfl ⟨rfl, rfl⟩ zds_yX8_paints_v ⟨Nat.le_of_ble_eq_true rfl, Nat.le_of_ble_eq_true rfl⟩ (wM_at_0 ad cy _) rfl rfl rfl rfl (Nat.le_of_ble_eq_true rfl) dX8_paint_104 (fun r25 g26 h => ?_)
  refine zz_if_eq K 118 dX8_paint_107 rfl (fun c27 => ?_) (fun c27 => ?_)
  · have h := (And.left h) c27
    exact zu8_paint_118 K hret hB74 h
  · have h := (And.right h) c27
    refine zz_aload_n K 0 dX8_paint_110 rfl rfl ?_
    refine zg8_25 K zin_X8_paint_X8 zlk_X8_paint_5 dX8_paint_111 ?_
    refine zz_iload K 4 dX8_paint_114 rfl ?_
    obtain ⟨hin, h⟩ := h
    refine zz_iaload K 0 (wM_at_25 ad cy g26) rfl hin dX8_paint_116 ?_
    refine zz_nmi (fun x28 ex28 => ?_)
    have h := h x28 ex28
    refine zz_istore_n K [(3, .int x28), (0, .ref (ad 0)), (1, .int v1), (2, .int v2), (4, .int v4)] dX8_paint_117 rfl (by decide) rfl ?_
    refine zz_sub [1, 2, 3, 0, 4] [(0, .ref (ad 0)), (1, .int v1), (2, .int v2), (3, .int x28), (4, .int v4)] rfl ?_
    exact zu8_paint_118 K hret hB74 h
set_option maxHeartbeats 4000000 in
set_option maxRecDepth 100000 in
theorem zu8_paint_74 {p : Program} {l : Launch} {e : Env} {s : State} {m : MethodId} {args : Array Value} {below : List Frame} {meth : Method} {c : Code} {Q : State → Prop} {D : va_G} {A : Nat → Prop} {ad : Nat → Nat} {cy : Nat → ClassId} {v1 : Int32} {v2 : Int32} {v3 : Int32} {v4 : Int32} {σ : zz_St} (K : zz_K p s m args c cX8_paint 5 RX8 wsX8_paint D (tysM cy) A (wM ad cy) []) {Qp : Int32 → zz_St → Prop} (hret : ∀ (r : Int32) (σ2 : zz_St), narrow .int (.int r) = .int r → Qp r σ2 → ∀ (pc : Nat) (lv : List (Nat × Value)), decode cX8_paint pc = .ok (.ireturn, 1) → zz_G p l e zrm8_paint s m args below meth c Q D A (wM ad cy) 5 pc lv [.int r] σ2) (h : zq8_paint_74 v1 v2 v3 v4 σ Qp) : zz_G p l e zrm8_paint s m args below meth c Q D A (wM ad cy) 5 74 [(0, .ref (ad 0)), (1, .int v1), (2, .int v2), (3, .int v3), (4, .int v4)] [] σ := by
  unfold zq8_paint_74 at h
  obtain ⟨I74, M74, h0, hs⟩ := h
  have key : ∀ (n : Nat) (v3 : Int32) (v4 : Int32) (σ : zz_St), M74 v3 v4 σ < n → I74 v3 v4 σ → zz_G p l e zrm8_paint s m args below meth c Q D A (wM ad cy) 5 74 [(0, .ref (ad 0)), (1, .int v1), (2, .int v2), (3, .int v3), (4, .int v4)] [] σ := by
    intro n
    induction n with
    | zero => intro v3 v4 σ hlt; exact absurd hlt (Nat.not_lt_zero _)
    | succ n ih =>
      intro v3 v4 σ hlt hI
      have h := hs v3 v4 σ hI
      have hB74 : ∀ (v3' : Int32) (v4' : Int32) (σ' : zz_St), (fun v3' v4' σ' => I74 v3' v4' σ' ∧ M74 v3' v4' σ' < M74 v3 v4 σ) v3' v4' σ' → zz_G p l e zrm8_paint s m args below meth c Q D A (wM ad cy) 5 74 [(0, .ref (ad 0)), (1, .int v1), (2, .int v2), (3, .int v3'), (4, .int v4')] [] σ' := fun v3' v4' σ' hz => ih v3' v4' σ' (Nat.lt_of_lt_of_le hz.2 (Nat.le_of_lt_succ hlt)) hz.1
      refine zz_iload K 4 dX8_paint_74 rfl ?_
      refine zz_aload_n K 0 dX8_paint_76 rfl rfl ?_
      refine zg8_27 K zin_X8_paint_X8 zlk_X8_paint_4 dX8_paint_77 ?_
      refine zz_icmp_ge K 124 dX8_paint_80 rfl (fun c29 => ?_) (fun c29 => ?_)
      · have h := (And.left h) c29
        refine zz_iload_n K 3 dX8_paint_124 rfl rfl ?_
        refine zz_iconst K dX8_paint_125 zci_m1 ?_
        refine zz_icmp_ne K 134 dX8_paint_126 rfl (fun c30 => ?_) (fun c30 => ?_)
        · have h := (And.left h) c30
          refine zz_iload_n K 3 dX8_paint_134 rfl rfl ?_
          exact hret _ _ rfl h _ _ dX8_paint_135
        · have h := (And.right h) c30
          refine zz_bipush K dX8_paint_129 zcb_m9 ?_
          refine zz_goto K 135 dX8_paint_131 rfl ?_
          exact hret _ _ rfl h _ _ dX8_paint_135
      · have h := (And.right h) c29
        refine zz_iload_n K 3 dX8_paint_83 rfl rfl ?_
        refine zz_iconst K dX8_paint_84 zci_m1 ?_
        refine zz_icmp_eq K 99 dX8_paint_85 rfl (fun c31 => ?_) (fun c31 => ?_)
        · have h := (And.left h) c31
          exact zu8_paint_99 K hret hB74 h
        · have h := (And.right h) c31
          refine zz_aload_n K 0 dX8_paint_88 rfl rfl ?_
          refine zg8_25 K zin_X8_paint_X8 zlk_X8_paint_5 dX8_paint_89 ?_
          refine zz_iload K 4 dX8_paint_92 rfl ?_
          obtain ⟨hin, h⟩ := h
          refine zz_iaload K 0 (wM_at_25 ad cy σ) rfl hin dX8_paint_94 ?_
          refine zz_iload_n K 3 dX8_paint_95 rfl rfl ?_
          refine zz_icmp_ge K 118 dX8_paint_96 rfl (fun c32 => ?_) (fun c32 => ?_)
          · have h := (And.left h) c32
            exact zu8_paint_118 K hret hB74 h
          · have h := (And.right h) c32
            exact zu8_paint_99 K hret hB74 h
  exact key _ v3 v4 σ (Nat.lt_succ_self _) h0
set_option maxHeartbeats 4000000 in
set_option maxRecDepth 100000 in
theorem zu8_paint_70 {p : Program} {l : Launch} {e : Env} {s : State} {m : MethodId} {args : Array Value} {below : List Frame} {meth : Method} {c : Code} {Q : State → Prop} {D : va_G} {A : Nat → Prop} {ad : Nat → Nat} {cy : Nat → ClassId} {v1 : Int32} {v2 : Int32} {s0 : Int32} {σ : zz_St} (K : zz_K p s m args c cX8_paint 5 RX8 wsX8_paint D (tysM cy) A (wM ad cy) []) {Qp : Int32 → zz_St → Prop} (hret : ∀ (r : Int32) (σ2 : zz_St), narrow .int (.int r) = .int r → Qp r σ2 → ∀ (pc : Nat) (lv : List (Nat × Value)), decode cX8_paint pc = .ok (.ireturn, 1) → zz_G p l e zrm8_paint s m args below meth c Q D A (wM ad cy) 5 pc lv [.int r] σ2) (h : zq8_paint_70 v1 v2 s0 σ Qp) : zz_G p l e zrm8_paint s m args below meth c Q D A (wM ad cy) 5 70 [(0, .ref (ad 0)), (1, .int v1), (2, .int v2)] [.int s0] σ := by
  unfold zq8_paint_70 at h
  refine zz_istore_n K [(3, .int s0), (0, .ref (ad 0)), (1, .int v1), (2, .int v2)] dX8_paint_70 rfl (by decide) rfl ?_
  refine zz_iconst K dX8_paint_71 zci_1 ?_
  refine zz_istore K [(4, .int (1 : Int32)), (3, .int s0), (0, .ref (ad 0)), (1, .int v1), (2, .int v2)] dX8_paint_72 (by decide) rfl ?_
  refine zz_sub [2, 3, 4, 1, 0] [(0, .ref (ad 0)), (1, .int v1), (2, .int v2), (3, .int s0), (4, .int (1 : Int32))] rfl ?_
  exact zu8_paint_74 K hret h
set_option maxHeartbeats 4000000 in
set_option maxRecDepth 100000 in
theorem zu8_paint_0 {p : Program} {l : Launch} {e : Env} {s : State} {m : MethodId} {args : Array Value} {below : List Frame} {meth : Method} {c : Code} {Q : State → Prop} {D : va_G} {A : Nat → Prop} {ad : Nat → Nat} {cy : Nat → ClassId} {v1 : Int32} {v2 : Int32} {σ : zz_St} (K : zz_K p s m args c cX8_paint 5 RX8 wsX8_paint D (tysM cy) A (wM ad cy) []) {Qp : Int32 → zz_St → Prop} (hret : ∀ (r : Int32) (σ2 : zz_St), narrow .int (.int r) = .int r → Qp r σ2 → ∀ (pc : Nat) (lv : List (Nat × Value)), decode cX8_paint pc = .ok (.ireturn, 1) → zz_G p l e zrm8_paint s m args below meth c Q D A (wM ad cy) 5 pc lv [.int r] σ2) (h : zq8_paint v1 v2 σ Qp) : zz_G p l e zrm8_paint s m args below meth c Q D A (wM ad cy) 5 0 [(0, .ref (ad 0)), (1, .int v1), (2, .int v2)] [] σ := by
  unfold zq8_paint at h
  refine zz_aload_n K 0 dX8_paint_0 rfl rfl ?_
  refine zz_iload_n K 1 dX8_paint_1 rfl rfl ?_
  refine zz_callVi1 K zz_nw_nil [.int v1] (zc8_isTile l D ad cy v1 σ _ h) gX8_paint_X8_isTile rfl ⟨rfl, rfl⟩ zds_yX8_isTile_v ⟨Nat.le_of_ble_eq_true rfl, Nat.le_of_ble_eq_true rfl⟩ (wM_at_0 ad cy _) rfl rfl rfl rfl (Nat.le_of_ble_eq_true rfl) dX8_paint_2 (fun r33 h => ?_)
  refine zz_if_eq K 16 dX8_paint_5 rfl (fun c34 => ?_) (fun c34 => ?_)
  · have h := (And.left h) c34
    refine zz_sub [0] [(0, .ref (ad 0))] rfl ?_
    exact zu8_paint_16 K hret h
  · have h := (And.right h) c34
    refine zz_aload_n K 0 dX8_paint_8 rfl rfl ?_
    refine zz_iload_n K 2 dX8_paint_9 rfl rfl ?_
    refine zz_callVi1 K zz_nw_nil [.int v2] (zc8_isFace l D ad cy v2 σ _ h) gX8_paint_X8_isFace rfl ⟨rfl, rfl⟩ zds_yX8_isFace_v ⟨Nat.le_of_ble_eq_true rfl, Nat.le_of_ble_eq_true rfl⟩ (wM_at_0 ad cy _) rfl rfl rfl rfl (Nat.le_of_ble_eq_true rfl) dX8_paint_10 (fun r35 h => ?_)
    refine zz_if_ne K 22 dX8_paint_13 rfl (fun c36 => ?_) (fun c36 => ?_)
    · have h := (And.left h) c36
      refine zz_aload_n K 0 dX8_paint_22 rfl rfl ?_
      refine zg8_9 K zin_X8_paint_X8 zlk_X8_paint_1 dX8_paint_23 ?_
      refine zz_if_ne K 36 dX8_paint_26 rfl (fun c37 => ?_) (fun c37 => ?_)
      · have h := (And.left h) c37
        refine zz_aload_n K 0 dX8_paint_36 rfl rfl ?_
        refine zg8_5 K zin_X8_paint_X8 zlk_X8_paint_2 dX8_paint_37 ?_
        refine zz_iload_n K 1 dX8_paint_40 rfl rfl ?_
        obtain ⟨hin, h⟩ := h
        refine zz_iaload K 0 (wM_at_5 ad cy σ) rfl hin dX8_paint_41 ?_
        refine zz_iload_n K 2 dX8_paint_42 rfl rfl ?_
        refine zz_icmp_ne K 48 dX8_paint_43 rfl (fun c38 => ?_) (fun c38 => ?_)
        · have h := (And.left h) c38
          refine zz_aload_n K 0 dX8_paint_48 rfl rfl ?_
          refine zz_callVv K zz_nw_nil [] (zc8_goesThrough l D ad cy  σ _ h) gX8_paint_X8_goesThrough rfl ⟨rfl, rfl⟩ zds_yX8_goesThrough_v ⟨Nat.le_of_ble_eq_true rfl, Nat.le_of_ble_eq_true rfl⟩ (wM_at_0 ad cy _) rfl rfl rfl rfl (Nat.le_of_ble_eq_true rfl) dX8_paint_49 (fun g39 h => ?_)
          refine zz_aload_n K 0 dX8_paint_52 rfl rfl ?_
          refine zz_iconst K dX8_paint_53 zci_0 ?_
          refine zz_iload_n K 1 dX8_paint_54 rfl rfl ?_
          refine zz_iload_n K 2 dX8_paint_55 rfl rfl ?_
          refine zz_callVi K zz_nw_nil [.int (0 : Int32), .int v1, .int v2] (zc8_paints l D ad cy (0 : Int32) v1 v2 g39 _ h) gX8_paint_X8_paints rfl ⟨rfl, rfl⟩ zds_yX8_paints_v ⟨Nat.le_of_ble_eq_true rfl, Nat.le_of_ble_eq_true rfl⟩ (wM_at_0 ad cy _) rfl rfl rfl rfl (Nat.le_of_ble_eq_true rfl) dX8_paint_56 (fun r40 g41 h => ?_)
          refine zz_if_eq K 69 dX8_paint_59 rfl (fun c42 => ?_) (fun c42 => ?_)
          · have h := (And.left h) c42
            refine zz_iconst K dX8_paint_69 zci_m1 ?_
            exact zu8_paint_70 K hret h
          · have h := (And.right h) c42
            refine zz_aload_n K 0 dX8_paint_62 rfl rfl ?_
            refine zg8_28 K zin_X8_paint_X8 zlk_X8_paint_3 dX8_paint_63 ?_
            refine zz_goto K 70 dX8_paint_66 rfl ?_
            exact zu8_paint_70 K hret h
        · have h := (And.right h) c38
          refine zz_iconst K dX8_paint_46 zci_0 ?_
          exact hret _ _ rfl h _ _ dX8_paint_47
      · have h := (And.right h) c37
        refine zz_aload_n K 0 dX8_paint_29 rfl rfl ?_
        refine zz_bipush K dX8_paint_30 zcb_m3 ?_
        refine zz_callVi K zz_nw_nil [.int (-3 : Int32)] (zc8_no l D ad cy (-3 : Int32) σ _ h) gX8_paint_X8_no rfl ⟨rfl, rfl⟩ zds_yX8_no_v ⟨Nat.le_of_ble_eq_true rfl, Nat.le_of_ble_eq_true rfl⟩ (wM_at_0 ad cy _) rfl rfl rfl rfl (Nat.le_of_ble_eq_true rfl) dX8_paint_32 (fun r43 g44 h => ?_)
        exact hret _ _ rfl h _ _ dX8_paint_35
    · have h := (And.right h) c36
      refine zz_sub [0] [(0, .ref (ad 0))] rfl ?_
      exact zu8_paint_16 K hret h
set_option maxRecDepth 100000 in
theorem zc8_paint (l : Launch) (D : va_G) (ad : Nat → Nat) (cy : Nat → ClassId) (v1 : Int32) (v2 : Int32) (σ : zz_St) (Qp : Int32 → zz_St → Prop) (h : zq8_paint v1 v2 σ Qp) : zz_Mi l yX8_paint wsX8_paint zrm8_paint D (tysM cy) (wM ad cy) [] [.ref (ad 0), .int v1, .int v2] σ Qp :=
  zz_Mi.of zz_nw_nil (wM_ad ad cy) (by decide +kernel) rfl ⟨rfl, rfl⟩ (Nat.le_of_ble_eq_true rfl) (fun p e s m args below meth c A QW K hret => zu8_paint_0 K  hret h)
theorem zcb_12 : (Int8.ofInt (12)).toInt32 = (12 : Int32) := by decide
theorem zin_X8_likely_X8 : ∀ w ∈ wsX80, w ∈ wsX8_likely := fun w h => List.mem_cons_of_mem _ (List.mem_append_right _ h)
theorem zlk_X8_likely_1 : Cond.fieldLink RX8 38 "SolidsRolledModel" "isThere" "Z" ∈ wsX8_likely := List.mem_of_getElem? (i := 1) rfl
theorem zlk_X8_likely_2 : Cond.fieldLink RX8 251 "SolidsRolledModel" "many" "I" ∈ wsX8_likely := List.mem_of_getElem? (i := 2) rfl
theorem zlk_X8_likely_3 : Cond.fieldLink RX8 88 "SolidsRolledModel" "likes" "[J" ∈ wsX8_likely := List.mem_of_getElem? (i := 3) rfl
theorem zlk_X8_likely_7 : Cond.fieldLink RX8 63 "SolidsRolledModel" "queuePlace" "[I" ∈ wsX8_likely := List.mem_of_getElem? (i := 7) rfl
theorem zlk_X8_likely_4 : Cond.fieldLink RX8 92 "SolidsRolledModel" "likesThen" "[J" ∈ wsX8_likely := List.mem_of_getElem? (i := 4) rfl
theorem zlk_X8_likely_6 : Cond.constantLong RX8 310 (4) ∈ wsX8_likely := List.mem_of_getElem? (i := 6) rfl
theorem zlk_X8_likely_5 : Cond.fieldLink RX8 72 "SolidsRolledModel" "next" "[I" ∈ wsX8_likely := List.mem_of_getElem? (i := 5) rfl
abbrev zrm8_likely : Room := { frames := 6, cells := 0, slots := 0, locals := 137 }
set_option maxHeartbeats 4000000 in
set_option maxRecDepth 100000 in
theorem zu8_likely_101 {p : Program} {l : Launch} {e : Env} {s : State} {m : MethodId} {args : Array Value} {below : List Frame} {meth : Method} {c : Code} {Q : State → Prop} {D : va_G} {A : Nat → Prop} {ad : Nat → Nat} {cy : Nat → ClassId} {v1 : Int32} {v2 : Int32} {v3 : Int32} {v4 : Int32} {s0 : Int64} {s1 : Int32} {σ : zz_St} (K : zz_K p s m args c cX8_likely 14 RX8 wsX8_likely D (tysM cy) A (wM ad cy) []) {Qp : Int64 → zz_St → Prop} (hret : ∀ (r : Int64) (σ2 : zz_St), Qp r σ2 → ∀ (pc : Nat) (lv : List (Nat × Value)), decode cX8_likely pc = .ok (.lreturn, 1) → zz_G p l e zrm8_likely s m args below meth c Q D A (wM ad cy) 14 pc lv [.long r] σ2) {B76 : Int32 → zz_St → Prop} (hB76 : ∀ (v4' : Int32) (σ' : zz_St), B76 v4' σ' → zz_G p l e zrm8_likely s m args below meth c Q D A (wM ad cy) 14 76 [(0, .ref (ad 0)), (1, .int v1), (2, .int v2), (3, .int v3), (4, .int v4')] [] σ') (h : zq8_likely_101 v1 v2 v3 v4 s0 s1 σ Qp B76) : zz_G p l e zrm8_likely s m args below meth c Q D A (wM ad cy) 14 101 [(0, .ref (ad 0)), (1, .int v1), (2, .int v2), (3, .int v3), (4, .int v4)] [.long s0, .int s1, .ref (ad 34)] σ := by
  unfold zq8_likely_101 at h
  obtain ⟨hin, h⟩ := h
  refine zz_lastore K 1 (σ2 := zz_L σ 34 (vp_updL ((σ).2.2 34) s1.toNatClampNeg s0)) (wM_at_34 ad cy σ) (wM_set_34 ad cy σ _) rfl hin dX8_likely_101 ?_
  refine zz_nms (fun g38 eg38 => ?_)
  have h := h g38 eg38
  refine zz_iinc K 4 [(4, .int (v4 + (1 : Int32))), (0, .ref (ad 0)), (1, .int v1), (2, .int v2), (3, .int v3)] dX8_likely_102 zci_1 rfl (by decide) rfl ?_
  refine zz_goto K 76 dX8_likely_105 rfl ?_
  refine zz_sub [1, 2, 3, 4, 0] [(0, .ref (ad 0)), (1, .int v1), (2, .int v2), (3, .int v3), (4, .int (v4 + (1 : Int32)))] rfl ?_
  exact hB76 (v4 + (1 : Int32)) g38 h
set_option maxHeartbeats 4000000 in
set_option maxRecDepth 100000 in
theorem zu8_likely_203 {p : Program} {l : Launch} {e : Env} {s : State} {m : MethodId} {args : Array Value} {below : List Frame} {meth : Method} {c : Code} {Q : State → Prop} {D : va_G} {A : Nat → Prop} {ad : Nat → Nat} {cy : Nat → ClassId} {v1 : Int32} {v2 : Int32} {v3 : Int32} {v4 : Int64} {v6 : Int32} {v7 : Int32} {v8 : Int32} {s0 : Int32} {σ : zz_St} (K : zz_K p s m args c cX8_likely 14 RX8 wsX8_likely D (tysM cy) A (wM ad cy) []) {Qp : Int64 → zz_St → Prop} (hret : ∀ (r : Int64) (σ2 : zz_St), Qp r σ2 → ∀ (pc : Nat) (lv : List (Nat × Value)), decode cX8_likely pc = .ok (.lreturn, 1) → zz_G p l e zrm8_likely s m args below meth c Q D A (wM ad cy) 14 pc lv [.long r] σ2) {B114 : Int64 → Int32 → zz_St → Prop} (hB114 : ∀ (v4' : Int64) (v6' : Int32) (σ' : zz_St), B114 v4' v6' σ' → zz_G p l e zrm8_likely s m args below meth c Q D A (wM ad cy) 14 114 [(0, .ref (ad 0)), (1, .int v1), (2, .int v2), (3, .int v3), (4, .long v4'), (6, .int v6')] [] σ') {B149 : Int32 → zz_St → Prop} (hB149 : ∀ (v7' : Int32) (σ' : zz_St), B149 v7' σ' → zz_G p l e zrm8_likely s m args below meth c Q D A (wM ad cy) 14 149 [(0, .ref (ad 0)), (1, .int v1), (2, .int v2), (3, .int v3), (4, .long v4), (6, .int v6), (7, .int v7')] [] σ') {B161 : Int32 → zz_St → Prop} (hB161 : ∀ (v8' : Int32) (σ' : zz_St), B161 v8' σ' → zz_G p l e zrm8_likely s m args below meth c Q D A (wM ad cy) 14 161 [(0, .ref (ad 0)), (1, .int v1), (2, .int v2), (3, .int v3), (4, .long v4), (6, .int v6), (7, .int v7), (8, .int v8')] [] σ') (h : zq8_likely_203 v1 v2 v3 v4 v6 v7 v8 s0 σ Qp B114 B149 B161) : zz_G p l e zrm8_likely s m args below meth c Q D A (wM ad cy) 14 203 [(0, .ref (ad 0)), (1, .int v1), (2, .int v2), (3, .int v3), (4, .long v4), (6, .int v6), (7, .int v7), (8, .int v8)] [.int s0, .ref (ad 35)] σ := by
  unfold zq8_likely_203 at h
  refine zz_dup2 K rfl rfl dX8_likely_203 ?_
  obtain ⟨hin, h⟩ := h
  refine zz_laload K 1 (wM_at_35 ad cy σ) rfl hin dX8_likely_204 ?_
  refine zz_aload_n K 0 dX8_likely_205 rfl rfl ?_
  refine zg8_34 K zin_X8_likely_X8 zlk_X8_likely_3 dX8_likely_206 ?_
  refine zz_iload K 6 dX8_likely_209 rfl ?_
  obtain ⟨hin, h⟩ := h
  refine zz_laload K 1 (wM_at_34 ad cy σ) rfl hin dX8_likely_211 ?_
  refine zz_ladd K dX8_likely_212 ?_
  obtain ⟨hin, h⟩ := h
  refine zz_lastore K 1 (σ2 := zz_L σ 35 (vp_updL ((σ).2.2 35) s0.toNatClampNeg (((σ).2.2 35 s0.toNatClampNeg) + ((σ).2.2 34 v7.toNatClampNeg)))) (wM_at_35 ad cy σ) (wM_set_35 ad cy σ _) rfl hin dX8_likely_213 ?_
  refine zz_nms (fun g39 eg39 => ?_)
  have h := h g39 eg39
  refine zz_iinc K 7 [(8, .int (v8 + (1 : Int32))), (0, .ref (ad 0)), (1, .int v1), (2, .int v2), (3, .int v3), (4, .long v4), (6, .int v6), (7, .int v7)] dX8_likely_214 zci_1 rfl (by decide) rfl ?_
  refine zz_goto K 161 dX8_likely_217 rfl ?_
  refine zz_sub [1, 2, 3, 4, 5, 6, 7, 0] [(0, .ref (ad 0)), (1, .int v1), (2, .int v2), (3, .int v3), (4, .long v4), (6, .int v6), (7, .int v7), (8, .int (v8 + (1 : Int32)))] rfl ?_
  exact hB161 (v8 + (1 : Int32)) g39 h
set_option maxHeartbeats 4000000 in
set_option maxRecDepth 100000 in
theorem zu8_likely_161 {p : Program} {l : Launch} {e : Env} {s : State} {m : MethodId} {args : Array Value} {below : List Frame} {meth : Method} {c : Code} {Q : State → Prop} {D : va_G} {A : Nat → Prop} {ad : Nat → Nat} {cy : Nat → ClassId} {v1 : Int32} {v2 : Int32} {v3 : Int32} {v4 : Int64} {v6 : Int32} {v7 : Int32} {v8 : Int32} {σ : zz_St} (K : zz_K p s m args c cX8_likely 14 RX8 wsX8_likely D (tysM cy) A (wM ad cy) []) {Qp : Int64 → zz_St → Prop} (hret : ∀ (r : Int64) (σ2 : zz_St), Qp r σ2 → ∀ (pc : Nat) (lv : List (Nat × Value)), decode cX8_likely pc = .ok (.lreturn, 1) → zz_G p l e zrm8_likely s m args below meth c Q D A (wM ad cy) 14 pc lv [.long r] σ2) {B114 : Int64 → Int32 → zz_St → Prop} (hB114 : ∀ (v4' : Int64) (v6' : Int32) (σ' : zz_St), B114 v4' v6' σ' → zz_G p l e zrm8_likely s m args below meth c Q D A (wM ad cy) 14 114 [(0, .ref (ad 0)), (1, .int v1), (2, .int v2), (3, .int v3), (4, .long v4'), (6, .int v6')] [] σ') {B149 : Int32 → zz_St → Prop} (hB149 : ∀ (v7' : Int32) (σ' : zz_St), B149 v7' σ' → zz_G p l e zrm8_likely s m args below meth c Q D A (wM ad cy) 14 149 [(0, .ref (ad 0)), (1, .int v1), (2, .int v2), (3, .int v3), (4, .long v4), (6, .int v6), (7, .int v7')] [] σ') (h : zq8_likely_161 v1 v2 v3 v4 v6 v7 v8 σ Qp B114 B149) : zz_G p l e zrm8_likely s m args below meth c Q D A (wM ad cy) 14 161 [(0, .ref (ad 0)), (1, .int v1), (2, .int v2), (3, .int v3), (4, .long v4), (6, .int v6), (7, .int v7), (8, .int v8)] [] σ := by
  unfold zq8_likely_161 at h
  obtain ⟨I161, M161, h0, hs⟩ := h
  have key : ∀ (n : Nat) (v8 : Int32) (σ : zz_St), M161 v8 σ < n → I161 v8 σ → zz_G p l e zrm8_likely s m args below meth c Q D A (wM ad cy) 14 161 [(0, .ref (ad 0)), (1, .int v1), (2, .int v2), (3, .int v3), (4, .long v4), (6, .int v6), (7, .int v7), (8, .int v8)] [] σ := by
    intro n
    induction n with
    | zero => intro v8 σ hlt; exact absurd hlt (Nat.not_lt_zero _)
    | succ n ih =>
      intro v8 σ hlt hI
      have h := hs v8 σ hI
      have hB161 : ∀ (v8' : Int32) (σ' : zz_St), (fun v8' σ' => I161 v8' σ' ∧ M161 v8' σ' < M161 v8 σ) v8' σ' → zz_G p l e zrm8_likely s m args below meth c Q D A (wM ad cy) 14 161 [(0, .ref (ad 0)), (1, .int v1), (2, .int v2), (3, .int v3), (4, .long v4), (6, .int v6), (7, .int v7), (8, .int v8')] [] σ' := fun v8' σ' hz => ih v8' σ' (Nat.lt_of_lt_of_le hz.2 (Nat.le_of_lt_succ hlt)) hz.1
      refine zz_iload K 7 dX8_likely_161 rfl ?_
      refine zz_iconst K dX8_likely_163 zci_4 ?_
      refine zz_icmp_ge K 220 dX8_likely_164 rfl (fun c40 => ?_) (fun c40 => ?_)
      · have h := (And.left h) c40
        refine zz_iinc K 6 [(7, .int (v7 + (1 : Int32))), (0, .ref (ad 0)), (1, .int v1), (2, .int v2), (3, .int v3), (4, .long v4), (6, .int v6), (8, .int v8)] dX8_likely_220 zci_1 rfl (by decide) rfl ?_
        refine zz_goto K 149 dX8_likely_223 rfl ?_
        refine zz_sub [1, 2, 3, 4, 5, 6, 0] [(0, .ref (ad 0)), (1, .int v1), (2, .int v2), (3, .int v3), (4, .long v4), (6, .int v6), (7, .int (v7 + (1 : Int32)))] rfl ?_
        exact hB149 (v7 + (1 : Int32)) σ h
      · have h := (And.right h) c40
        refine zz_aload_n K 0 dX8_likely_167 rfl rfl ?_
        refine zg8_35 K zin_X8_likely_X8 zlk_X8_likely_4 dX8_likely_168 ?_
        refine zz_aload_n K 0 dX8_likely_171 rfl rfl ?_
        refine zg8_26 K zin_X8_likely_X8 zlk_X8_likely_5 dX8_likely_172 ?_
        refine zz_iconst K dX8_likely_175 zci_4 ?_
        refine zz_iload K 6 dX8_likely_176 rfl ?_
        refine zz_imul K dX8_likely_178 ?_
        refine zz_iload K 7 dX8_likely_179 rfl ?_
        refine zz_iadd K dX8_likely_181 ?_
        obtain ⟨hin, h⟩ := h
        refine zz_iaload K 0 (wM_at_26 ad cy σ) rfl hin dX8_likely_182 ?_
        refine zz_if_ge K 191 dX8_likely_183 rfl (fun c41 => ?_) (fun c41 => ?_)
        · have h := (And.left h) c41
          refine zz_aload_n K 0 dX8_likely_191 rfl rfl ?_
          refine zg8_26 K zin_X8_likely_X8 zlk_X8_likely_5 dX8_likely_192 ?_
          refine zz_iconst K dX8_likely_195 zci_4 ?_
          refine zz_iload K 6 dX8_likely_196 rfl ?_
          refine zz_imul K dX8_likely_198 ?_
          refine zz_iload K 7 dX8_likely_199 rfl ?_
          refine zz_iadd K dX8_likely_201 ?_
          obtain ⟨hin, h⟩ := h
          refine zz_iaload K 0 (wM_at_26 ad cy σ) rfl hin dX8_likely_202 ?_
          exact zu8_likely_203 K hret hB114 hB149 hB161 h
        · have h := (And.right h) c41
          refine zz_iload K 6 dX8_likely_186 rfl ?_
          refine zz_goto K 203 dX8_likely_188 rfl ?_
          exact zu8_likely_203 K hret hB114 hB149 hB161 h
  exact key _ v8 σ (Nat.lt_succ_self _) h0
set_option maxHeartbeats 4000000 in
set_option maxRecDepth 100000 in
theorem zu8_likely_229 {p : Program} {l : Launch} {e : Env} {s : State} {m : MethodId} {args : Array Value} {below : List Frame} {meth : Method} {c : Code} {Q : State → Prop} {D : va_G} {A : Nat → Prop} {ad : Nat → Nat} {cy : Nat → ClassId} {v1 : Int32} {v2 : Int32} {v3 : Int32} {v4 : Int64} {v6 : Int32} {v7 : Int32} {σ : zz_St} (K : zz_K p s m args c cX8_likely 14 RX8 wsX8_likely D (tysM cy) A (wM ad cy) []) {Qp : Int64 → zz_St → Prop} (hret : ∀ (r : Int64) (σ2 : zz_St), Qp r σ2 → ∀ (pc : Nat) (lv : List (Nat × Value)), decode cX8_likely pc = .ok (.lreturn, 1) → zz_G p l e zrm8_likely s m args below meth c Q D A (wM ad cy) 14 pc lv [.long r] σ2) {B114 : Int64 → Int32 → zz_St → Prop} (hB114 : ∀ (v4' : Int64) (v6' : Int32) (σ' : zz_St), B114 v4' v6' σ' → zz_G p l e zrm8_likely s m args below meth c Q D A (wM ad cy) 14 114 [(0, .ref (ad 0)), (1, .int v1), (2, .int v2), (3, .int v3), (4, .long v4'), (6, .int v6')] [] σ') (h : zq8_likely_229 v1 v2 v3 v4 v6 v7 σ Qp B114) : zz_G p l e zrm8_likely s m args below meth c Q D A (wM ad cy) 14 229 [(0, .ref (ad 0)), (1, .int v1), (2, .int v2), (3, .int v3), (4, .long v4), (6, .int v6), (7, .int v7)] [] σ := by
  unfold zq8_likely_229 at h
  obtain ⟨I229, M229, h0, hs⟩ := h
  have key : ∀ (n : Nat) (v7 : Int32) (σ : zz_St), M229 v7 σ < n → I229 v7 σ → zz_G p l e zrm8_likely s m args below meth c Q D A (wM ad cy) 14 229 [(0, .ref (ad 0)), (1, .int v1), (2, .int v2), (3, .int v3), (4, .long v4), (6, .int v6), (7, .int v7)] [] σ := by
    intro n
    induction n with
    | zero => intro v7 σ hlt; exact absurd hlt (Nat.not_lt_zero _)
    | succ n ih =>
      intro v7 σ hlt hI
      have h := hs v7 σ hI
      have hB229 : ∀ (v7' : Int32) (σ' : zz_St), (fun v7' σ' => I229 v7' σ' ∧ M229 v7' σ' < M229 v7 σ) v7' σ' → zz_G p l e zrm8_likely s m args below meth c Q D A (wM ad cy) 14 229 [(0, .ref (ad 0)), (1, .int v1), (2, .int v2), (3, .int v3), (4, .long v4), (6, .int v6), (7, .int v7')] [] σ' := fun v7' σ' hz => ih v7' σ' (Nat.lt_of_lt_of_le hz.2 (Nat.le_of_lt_succ hlt)) hz.1
      refine zz_iload K 6 dX8_likely_229 rfl ?_
      refine zz_aload_n K 0 dX8_likely_231 rfl rfl ?_
      refine zg8_27 K zin_X8_likely_X8 zlk_X8_likely_2 dX8_likely_232 ?_
      refine zz_icmp_ge K 258 dX8_likely_235 rfl (fun c42 => ?_) (fun c42 => ?_)
      · have h := (And.left h) c42
        refine zz_lload K 4 dX8_likely_258 rfl ?_
        refine zz_ldc2 K zlk_X8_likely_6 dX8_likely_260 ?_
        refine zz_lmul K dX8_likely_263 ?_
        refine zz_nml (fun x43 ex43 => ?_)
        have h := h x43 ex43
        refine zz_lstore K [(4, .long x43), (0, .ref (ad 0)), (1, .int v1), (2, .int v2), (3, .int v3), (6, .int v6), (7, .int v7)] dX8_likely_264 (by decide) rfl ?_
        refine zz_iinc K 5 [(6, .int (v6 + (1 : Int32))), (4, .long x43), (0, .ref (ad 0)), (1, .int v1), (2, .int v2), (3, .int v3), (7, .int v7)] dX8_likely_266 zci_1 rfl (by decide) rfl ?_
        refine zz_goto K 114 dX8_likely_269 rfl ?_
        refine zz_sub [2, 3, 4, 5, 1, 0] [(0, .ref (ad 0)), (1, .int v1), (2, .int v2), (3, .int v3), (4, .long x43), (6, .int (v6 + (1 : Int32)))] rfl ?_
        exact hB114 x43 (v6 + (1 : Int32)) σ h
      · have h := (And.right h) c42
        refine zz_aload_n K 0 dX8_likely_238 rfl rfl ?_
        refine zg8_34 K zin_X8_likely_X8 zlk_X8_likely_3 dX8_likely_239 ?_
        refine zz_iload K 6 dX8_likely_242 rfl ?_
        refine zz_aload_n K 0 dX8_likely_244 rfl rfl ?_
        refine zg8_35 K zin_X8_likely_X8 zlk_X8_likely_4 dX8_likely_245 ?_
        refine zz_iload K 6 dX8_likely_248 rfl ?_
        obtain ⟨hin, h⟩ := h
        refine zz_laload K 1 (wM_at_35 ad cy σ) rfl hin dX8_likely_250 ?_
        obtain ⟨hin, h⟩ := h
        refine zz_lastore K 1 (σ2 := zz_L σ 34 (vp_updL ((σ).2.2 34) v7.toNatClampNeg ((σ).2.2 35 v7.toNatClampNeg))) (wM_at_34 ad cy σ) (wM_set_34 ad cy σ _) rfl hin dX8_likely_251 ?_
        refine zz_nms (fun g44 eg44 => ?_)
        have h := h g44 eg44
        refine zz_iinc K 6 [(7, .int (v7 + (1 : Int32))), (0, .ref (ad 0)), (1, .int v1), (2, .int v2), (3, .int v3), (4, .long v4), (6, .int v6)] dX8_likely_252 zci_1 rfl (by decide) rfl ?_
        refine zz_goto K 229 dX8_likely_255 rfl ?_
        refine zz_sub [1, 2, 3, 4, 5, 6, 0] [(0, .ref (ad 0)), (1, .int v1), (2, .int v2), (3, .int v3), (4, .long v4), (6, .int v6), (7, .int (v7 + (1 : Int32)))] rfl ?_
        exact hB229 (v7 + (1 : Int32)) g44 h
  exact key _ v7 σ (Nat.lt_succ_self _) h0
set_option maxHeartbeats 4000000 in
set_option maxRecDepth 100000 in
theorem zu8_likely_149 {p : Program} {l : Launch} {e : Env} {s : State} {m : MethodId} {args : Array Value} {below : List Frame} {meth : Method} {c : Code} {Q : State → Prop} {D : va_G} {A : Nat → Prop} {ad : Nat → Nat} {cy : Nat → ClassId} {v1 : Int32} {v2 : Int32} {v3 : Int32} {v4 : Int64} {v6 : Int32} {v7 : Int32} {σ : zz_St} (K : zz_K p s m args c cX8_likely 14 RX8 wsX8_likely D (tysM cy) A (wM ad cy) []) {Qp : Int64 → zz_St → Prop} (hret : ∀ (r : Int64) (σ2 : zz_St), Qp r σ2 → ∀ (pc : Nat) (lv : List (Nat × Value)), decode cX8_likely pc = .ok (.lreturn, 1) → zz_G p l e zrm8_likely s m args below meth c Q D A (wM ad cy) 14 pc lv [.long r] σ2) {B114 : Int64 → Int32 → zz_St → Prop} (hB114 : ∀ (v4' : Int64) (v6' : Int32) (σ' : zz_St), B114 v4' v6' σ' → zz_G p l e zrm8_likely s m args below meth c Q D A (wM ad cy) 14 114 [(0, .ref (ad 0)), (1, .int v1), (2, .int v2), (3, .int v3), (4, .long v4'), (6, .int v6')] [] σ') (h : zq8_likely_149 v1 v2 v3 v4 v6 v7 σ Qp B114) : zz_G p l e zrm8_likely s m args below meth c Q D A (wM ad cy) 14 149 [(0, .ref (ad 0)), (1, .int v1), (2, .int v2), (3, .int v3), (4, .long v4), (6, .int v6), (7, .int v7)] [] σ := by
  unfold zq8_likely_149 at h
  obtain ⟨I149, M149, h0, hs⟩ := h
  have key : ∀ (n : Nat) (v7 : Int32) (σ : zz_St), M149 v7 σ < n → I149 v7 σ → zz_G p l e zrm8_likely s m args below meth c Q D A (wM ad cy) 14 149 [(0, .ref (ad 0)), (1, .int v1), (2, .int v2), (3, .int v3), (4, .long v4), (6, .int v6), (7, .int v7)] [] σ := by
    intro n
    induction n with
    | zero => intro v7 σ hlt; exact absurd hlt (Nat.not_lt_zero _)
    | succ n ih =>
      intro v7 σ hlt hI
      have h := hs v7 σ hI
      have hB149 : ∀ (v7' : Int32) (σ' : zz_St), (fun v7' σ' => I149 v7' σ' ∧ M149 v7' σ' < M149 v7 σ) v7' σ' → zz_G p l e zrm8_likely s m args below meth c Q D A (wM ad cy) 14 149 [(0, .ref (ad 0)), (1, .int v1), (2, .int v2), (3, .int v3), (4, .long v4), (6, .int v6), (7, .int v7')] [] σ' := fun v7' σ' hz => ih v7' σ' (Nat.lt_of_lt_of_le hz.2 (Nat.le_of_lt_succ hlt)) hz.1
      refine zz_iload K 6 dX8_likely_149 rfl ?_
      refine zz_aload_n K 0 dX8_likely_151 rfl rfl ?_
      refine zg8_27 K zin_X8_likely_X8 zlk_X8_likely_2 dX8_likely_152 ?_
      refine zz_icmp_ge K 226 dX8_likely_155 rfl (fun c45 => ?_) (fun c45 => ?_)
      · have h := (And.left h) c45
        refine zz_iconst K dX8_likely_226 zci_0 ?_
        refine zz_istore K [(7, .int (0 : Int32)), (0, .ref (ad 0)), (1, .int v1), (2, .int v2), (3, .int v3), (4, .long v4), (6, .int v6)] dX8_likely_227 (by decide) rfl ?_
        refine zz_sub [1, 2, 3, 4, 5, 6, 0] [(0, .ref (ad 0)), (1, .int v1), (2, .int v2), (3, .int v3), (4, .long v4), (6, .int v6), (7, .int (0 : Int32))] rfl ?_
        exact zu8_likely_229 K hret hB114 h
      · have h := (And.right h) c45
        refine zz_iconst K dX8_likely_158 zci_0 ?_
        refine zz_istore K [(8, .int (0 : Int32)), (0, .ref (ad 0)), (1, .int v1), (2, .int v2), (3, .int v3), (4, .long v4), (6, .int v6), (7, .int v7)] dX8_likely_159 (by decide) rfl ?_
        refine zz_sub [1, 2, 3, 4, 5, 6, 7, 0] [(0, .ref (ad 0)), (1, .int v1), (2, .int v2), (3, .int v3), (4, .long v4), (6, .int v6), (7, .int v7), (8, .int (0 : Int32))] rfl ?_
        exact zu8_likely_161 K hret hB114 hB149 h
  exact key _ v7 σ (Nat.lt_succ_self _) h0
set_option maxHeartbeats 4000000 in
set_option maxRecDepth 100000 in
theorem zu8_likely_123 {p : Program} {l : Launch} {e : Env} {s : State} {m : MethodId} {args : Array Value} {below : List Frame} {meth : Method} {c : Code} {Q : State → Prop} {D : va_G} {A : Nat → Prop} {ad : Nat → Nat} {cy : Nat → ClassId} {v1 : Int32} {v2 : Int32} {v3 : Int32} {v4 : Int64} {v6 : Int32} {v7 : Int32} {σ : zz_St} (K : zz_K p s m args c cX8_likely 14 RX8 wsX8_likely D (tysM cy) A (wM ad cy) []) {Qp : Int64 → zz_St → Prop} (hret : ∀ (r : Int64) (σ2 : zz_St), Qp r σ2 → ∀ (pc : Nat) (lv : List (Nat × Value)), decode cX8_likely pc = .ok (.lreturn, 1) → zz_G p l e zrm8_likely s m args below meth c Q D A (wM ad cy) 14 pc lv [.long r] σ2) {B114 : Int64 → Int32 → zz_St → Prop} (hB114 : ∀ (v4' : Int64) (v6' : Int32) (σ' : zz_St), B114 v4' v6' σ' → zz_G p l e zrm8_likely s m args below meth c Q D A (wM ad cy) 14 114 [(0, .ref (ad 0)), (1, .int v1), (2, .int v2), (3, .int v3), (4, .long v4'), (6, .int v6')] [] σ') (h : zq8_likely_123 v1 v2 v3 v4 v6 v7 σ Qp B114) : zz_G p l e zrm8_likely s m args below meth c Q D A (wM ad cy) 14 123 [(0, .ref (ad 0)), (1, .int v1), (2, .int v2), (3, .int v3), (4, .long v4), (6, .int v6), (7, .int v7)] [] σ := by
  unfold zq8_likely_123 at h
  obtain ⟨I123, M123, h0, hs⟩ := h
  have key : ∀ (n : Nat) (v7 : Int32) (σ : zz_St), M123 v7 σ < n → I123 v7 σ → zz_G p l e zrm8_likely s m args below meth c Q D A (wM ad cy) 14 123 [(0, .ref (ad 0)), (1, .int v1), (2, .int v2), (3, .int v3), (4, .long v4), (6, .int v6), (7, .int v7)] [] σ := by
    intro n
    induction n with
    | zero => intro v7 σ hlt; exact absurd hlt (Nat.not_lt_zero _)
    | succ n ih =>
      intro v7 σ hlt hI
      have h := hs v7 σ hI
      have hB123 : ∀ (v7' : Int32) (σ' : zz_St), (fun v7' σ' => I123 v7' σ' ∧ M123 v7' σ' < M123 v7 σ) v7' σ' → zz_G p l e zrm8_likely s m args below meth c Q D A (wM ad cy) 14 123 [(0, .ref (ad 0)), (1, .int v1), (2, .int v2), (3, .int v3), (4, .long v4), (6, .int v6), (7, .int v7')] [] σ' := fun v7' σ' hz => ih v7' σ' (Nat.lt_of_lt_of_le hz.2 (Nat.le_of_lt_succ hlt)) hz.1
      refine zz_iload K 6 dX8_likely_123 rfl ?_
      refine zz_aload_n K 0 dX8_likely_125 rfl rfl ?_
      refine zg8_27 K zin_X8_likely_X8 zlk_X8_likely_2 dX8_likely_126 ?_
      refine zz_icmp_ge K 146 dX8_likely_129 rfl (fun c46 => ?_) (fun c46 => ?_)
      · have h := (And.left h) c46
        refine zz_iconst K dX8_likely_146 zci_0 ?_
        refine zz_istore K [(7, .int (0 : Int32)), (0, .ref (ad 0)), (1, .int v1), (2, .int v2), (3, .int v3), (4, .long v4), (6, .int v6)] dX8_likely_147 (by decide) rfl ?_
        refine zz_sub [1, 2, 3, 4, 5, 6, 0] [(0, .ref (ad 0)), (1, .int v1), (2, .int v2), (3, .int v3), (4, .long v4), (6, .int v6), (7, .int (0 : Int32))] rfl ?_
        exact zu8_likely_149 K hret hB114 h
      · have h := (And.right h) c46
        refine zz_aload_n K 0 dX8_likely_132 rfl rfl ?_
        refine zg8_35 K zin_X8_likely_X8 zlk_X8_likely_4 dX8_likely_133 ?_
        refine zz_iload K 6 dX8_likely_136 rfl ?_
        refine zz_lconst K (v := (0 : Int64)) dX8_likely_138 rfl ?_
        obtain ⟨hin, h⟩ := h
        refine zz_lastore K 1 (σ2 := zz_L σ 35 (vp_updL ((σ).2.2 35) v7.toNatClampNeg (0 : Int64))) (wM_at_35 ad cy σ) (wM_set_35 ad cy σ _) rfl hin dX8_likely_139 ?_
        refine zz_nms (fun g47 eg47 => ?_)
        have h := h g47 eg47
        refine zz_iinc K 6 [(7, .int (v7 + (1 : Int32))), (0, .ref (ad 0)), (1, .int v1), (2, .int v2), (3, .int v3), (4, .long v4), (6, .int v6)] dX8_likely_140 zci_1 rfl (by decide) rfl ?_
        refine zz_goto K 123 dX8_likely_143 rfl ?_
        refine zz_sub [1, 2, 3, 4, 5, 6, 0] [(0, .ref (ad 0)), (1, .int v1), (2, .int v2), (3, .int v3), (4, .long v4), (6, .int v6), (7, .int (v7 + (1 : Int32)))] rfl ?_
        exact hB123 (v7 + (1 : Int32)) g47 h
  exact key _ v7 σ (Nat.lt_succ_self _) h0
set_option maxHeartbeats 4000000 in
set_option maxRecDepth 100000 in
theorem zu8_likely_311 {p : Program} {l : Launch} {e : Env} {s : State} {m : MethodId} {args : Array Value} {below : List Frame} {meth : Method} {c : Code} {Q : State → Prop} {D : va_G} {A : Nat → Prop} {ad : Nat → Nat} {cy : Nat → ClassId} {v2 : Int32} {v3 : Int32} {v4 : Int64} {v8 : Int32} {s0 : Int64} {s1 : Int64} {σ : zz_St} (K : zz_K p s m args c cX8_likely 14 RX8 wsX8_likely D (tysM cy) A (wM ad cy) []) {Qp : Int64 → zz_St → Prop} (hret : ∀ (r : Int64) (σ2 : zz_St), Qp r σ2 → ∀ (pc : Nat) (lv : List (Nat × Value)), decode cX8_likely pc = .ok (.lreturn, 1) → zz_G p l e zrm8_likely s m args below meth c Q D A (wM ad cy) 14 pc lv [.long r] σ2) {B278 : Int64 → Int32 → Prop} (hB278 : ∀ (v6' : Int64) (v8' : Int32), B278 v6' v8' → zz_G p l e zrm8_likely s m args below meth c Q D A (wM ad cy) 14 278 [(0, .ref (ad 0)), (2, .int v2), (3, .int v3), (4, .long v4), (6, .long v6'), (8, .int v8')] [] σ) (h : zq8_likely_311 v2 v3 v4 v8 s0 s1 σ Qp B278) : zz_G p l e zrm8_likely s m args below meth c Q D A (wM ad cy) 14 311 [(0, .ref (ad 0)), (2, .int v2), (3, .int v3), (4, .long v4), (8, .int v8)] [.long s0, .long s1] σ := by
  unfold zq8_likely_311 at h
  refine zz_ladd K dX8_likely_311 ?_
  refine zz_nml (fun x48 ex48 => ?_)
  have h := h x48 ex48
  refine zz_lstore K [(6, .long x48), (0, .ref (ad 0)), (2, .int v2), (3, .int v3), (4, .long v4), (8, .int v8)] dX8_likely_312 (by decide) rfl ?_
  refine zz_iinc K 5 [(8, .int (v8 + (1 : Int32))), (6, .long x48), (0, .ref (ad 0)), (2, .int v2), (3, .int v3), (4, .long v4)] dX8_likely_314 zci_1 rfl (by decide) rfl ?_
  refine zz_goto K 278 dX8_likely_317 rfl ?_
  refine zz_sub [2, 3, 4, 5, 1, 0] [(0, .ref (ad 0)), (2, .int v2), (3, .int v3), (4, .long v4), (6, .long x48), (8, .int (v8 + (1 : Int32)))] rfl ?_
  exact hB278 x48 (v8 + (1 : Int32)) h
set_option maxHeartbeats 4000000 in
set_option maxRecDepth 100000 in
theorem zu8_likely_328 {p : Program} {l : Launch} {e : Env} {s : State} {m : MethodId} {args : Array Value} {below : List Frame} {meth : Method} {c : Code} {Q : State → Prop} {D : va_G} {A : Nat → Prop} {ad : Nat → Nat} {cy : Nat → ClassId} {v3 : Int32} {v4 : Int64} {v6 : Int64} {v8 : Int64} {v10 : Int64} {σ : zz_St} (K : zz_K p s m args c cX8_likely 14 RX8 wsX8_likely D (tysM cy) A (wM ad cy) []) {Qp : Int64 → zz_St → Prop} (hret : ∀ (r : Int64) (σ2 : zz_St), Qp r σ2 → ∀ (pc : Nat) (lv : List (Nat × Value)), decode cX8_likely pc = .ok (.lreturn, 1) → zz_G p l e zrm8_likely s m args below meth c Q D A (wM ad cy) 14 pc lv [.long r] σ2) (h : zq8_likely_328 v3 v4 v6 v8 v10 σ Qp) : zz_G p l e zrm8_likely s m args below meth c Q D A (wM ad cy) 14 328 [(3, .int v3), (4, .long v4), (6, .long v6), (8, .long v8), (10, .long v10)] [] σ := by
  unfold zq8_likely_328 at h
  obtain ⟨I328, M328, h0, hs⟩ := h
  have key : ∀ (n : Nat) (v8 : Int64) (v10 : Int64), M328 v8 v10 < n → I328 v8 v10 → zz_G p l e zrm8_likely s m args below meth c Q D A (wM ad cy) 14 328 [(3, .int v3), (4, .long v4), (6, .long v6), (8, .long v8), (10, .long v10)] [] σ := by
    intro n
    induction n with
    | zero => intro v8 v10 hlt; exact absurd hlt (Nat.not_lt_zero _)
    | succ n ih =>
      intro v8 v10 hlt hI
      have h := hs v8 v10 hI
      have hB328 : ∀ (v8' : Int64) (v10' : Int64), (fun v8' v10' => I328 v8' v10' ∧ M328 v8' v10' < M328 v8 v10) v8' v10' → zz_G p l e zrm8_likely s m args below meth c Q D A (wM ad cy) 14 328 [(3, .int v3), (4, .long v4), (6, .long v6), (8, .long v8'), (10, .long v10')] [] σ := fun v8' v10' hz => ih v8' v10' (Nat.lt_of_lt_of_le hz.2 (Nat.le_of_lt_succ hlt)) hz.1
      refine zz_lload K 4 dX8_likely_328 rfl ?_
      refine zz_lconst K (v := (0 : Int64)) dX8_likely_330 rfl ?_
      refine zz_lcmp K dX8_likely_331 ?_
      refine zz_if_eq K 353 dX8_likely_332 rfl (fun c49 => ?_) (fun c49 => ?_)
      · have h := (And.left h) c49
        refine zz_iload_n K 0 dX8_likely_353 rfl rfl ?_
        refine zz_if_ne K 365 dX8_likely_354 rfl (fun c50 => ?_) (fun c50 => ?_)
        · have h := (And.left h) c50
          refine zz_lload K 1 dX8_likely_365 rfl ?_
          refine zz_lload K 3 dX8_likely_367 rfl ?_
          obtain ⟨hne, h⟩ := h
          refine zz_ldiv K hne dX8_likely_369 ?_
          exact hret _ _ h _ _ dX8_likely_370
        · have h := (And.right h) c50
          refine zz_lload K 2 dX8_likely_357 rfl ?_
          refine zz_lload K 3 dX8_likely_359 rfl ?_
          obtain ⟨hne, h⟩ := h
          refine zz_ldiv K hne dX8_likely_361 ?_
          refine zz_goto K 370 dX8_likely_362 rfl ?_
          exact hret _ _ h _ _ dX8_likely_370
      · have h := (And.right h) c49
        refine zz_lload K 3 dX8_likely_335 rfl ?_
        refine zz_lload K 4 dX8_likely_337 rfl ?_
        obtain ⟨hne, h⟩ := h
        refine zz_lrem K hne dX8_likely_339 ?_
        refine zz_nml (fun x51 ex51 => ?_)
        have h := h x51 ex51
        refine zz_lstore K [(12, .long x51), (3, .int v3), (4, .long v4), (6, .long v6), (8, .long v8), (10, .long v10)] dX8_likely_340 (by decide) rfl ?_
        refine zz_lload K 5 dX8_likely_342 rfl ?_
        refine zz_lstore K [(8, .long v10), (12, .long x51), (3, .int v3), (4, .long v4), (6, .long v6), (10, .long v10)] dX8_likely_344 (by decide) rfl ?_
        refine zz_lload K 1 dX8_likely_346 rfl ?_
        refine zz_lstore K [(10, .long x51), (8, .long v10), (12, .long x51), (3, .int v3), (4, .long v4), (6, .long v6)] dX8_likely_348 (by decide) rfl ?_
        refine zz_goto K 328 dX8_likely_350 rfl ?_
        refine zz_sub [3, 4, 5, 1, 0] [(3, .int v3), (4, .long v4), (6, .long v6), (8, .long v10), (10, .long x51)] rfl ?_
        exact hB328 v10 x51 h
  exact key _ v8 v10 (Nat.lt_succ_self _) h0
set_option maxHeartbeats 4000000 in
set_option maxRecDepth 100000 in
theorem zu8_likely_278 {p : Program} {l : Launch} {e : Env} {s : State} {m : MethodId} {args : Array Value} {below : List Frame} {meth : Method} {c : Code} {Q : State → Prop} {D : va_G} {A : Nat → Prop} {ad : Nat → Nat} {cy : Nat → ClassId} {v2 : Int32} {v3 : Int32} {v4 : Int64} {v6 : Int64} {v8 : Int32} {σ : zz_St} (K : zz_K p s m args c cX8_likely 14 RX8 wsX8_likely D (tysM cy) A (wM ad cy) []) {Qp : Int64 → zz_St → Prop} (hret : ∀ (r : Int64) (σ2 : zz_St), Qp r σ2 → ∀ (pc : Nat) (lv : List (Nat × Value)), decode cX8_likely pc = .ok (.lreturn, 1) → zz_G p l e zrm8_likely s m args below meth c Q D A (wM ad cy) 14 pc lv [.long r] σ2) (h : zq8_likely_278 v2 v3 v4 v6 v8 σ Qp) : zz_G p l e zrm8_likely s m args below meth c Q D A (wM ad cy) 14 278 [(0, .ref (ad 0)), (2, .int v2), (3, .int v3), (4, .long v4), (6, .long v6), (8, .int v8)] [] σ := by
  unfold zq8_likely_278 at h
  obtain ⟨I278, M278, h0, hs⟩ := h
  have key : ∀ (n : Nat) (v6 : Int64) (v8 : Int32), M278 v6 v8 < n → I278 v6 v8 → zz_G p l e zrm8_likely s m args below meth c Q D A (wM ad cy) 14 278 [(0, .ref (ad 0)), (2, .int v2), (3, .int v3), (4, .long v4), (6, .long v6), (8, .int v8)] [] σ := by
    intro n
    induction n with
    | zero => intro v6 v8 hlt; exact absurd hlt (Nat.not_lt_zero _)
    | succ n ih =>
      intro v6 v8 hlt hI
      have h := hs v6 v8 hI
      have hB278 : ∀ (v6' : Int64) (v8' : Int32), (fun v6' v8' => I278 v6' v8' ∧ M278 v6' v8' < M278 v6 v8) v6' v8' → zz_G p l e zrm8_likely s m args below meth c Q D A (wM ad cy) 14 278 [(0, .ref (ad 0)), (2, .int v2), (3, .int v3), (4, .long v4), (6, .long v6'), (8, .int v8')] [] σ := fun v6' v8' hz => ih v6' v8' (Nat.lt_of_lt_of_le hz.2 (Nat.le_of_lt_succ hlt)) hz.1
      refine zz_iload K 5 dX8_likely_278 rfl ?_
      refine zz_aload_n K 0 dX8_likely_280 rfl rfl ?_
      refine zg8_27 K zin_X8_likely_X8 zlk_X8_likely_2 dX8_likely_281 ?_
      refine zz_icmp_ge K 320 dX8_likely_284 rfl (fun c52 => ?_) (fun c52 => ?_)
      · have h := (And.left h) c52
        refine zz_lload K 4 dX8_likely_320 rfl ?_
        refine zz_lstore K [(8, .long v6), (0, .ref (ad 0)), (2, .int v2), (3, .int v3), (4, .long v4), (6, .long v6)] dX8_likely_322 (by decide) rfl ?_
        refine zz_lload K 4 dX8_likely_324 rfl ?_
        refine zz_lstore K [(10, .long v4), (8, .long v6), (0, .ref (ad 0)), (2, .int v2), (3, .int v3), (4, .long v4), (6, .long v6)] dX8_likely_326 (by decide) rfl ?_
        refine zz_sub [4, 5, 6, 1, 0] [(3, .int v3), (4, .long v4), (6, .long v6), (8, .long v6), (10, .long v4)] rfl ?_
        exact zu8_likely_328 K hret h
      · have h := (And.right h) c52
        refine zz_lload K 4 dX8_likely_287 rfl ?_
        refine zz_aload_n K 0 dX8_likely_289 rfl rfl ?_
        refine zg8_23 K zin_X8_likely_X8 zlk_X8_likely_7 dX8_likely_290 ?_
        refine zz_iload K 5 dX8_likely_293 rfl ?_
        obtain ⟨hin, h⟩ := h
        refine zz_iaload K 0 (wM_at_23 ad cy σ) rfl hin dX8_likely_295 ?_
        refine zz_iload_n K 1 dX8_likely_296 rfl rfl ?_
        refine zz_icmp_ne K 310 dX8_likely_297 rfl (fun c53 => ?_) (fun c53 => ?_)
        · have h := (And.left h) c53
          refine zz_lconst K (v := (0 : Int64)) dX8_likely_310 rfl ?_
          refine zz_sub [0, 1, 2, 3, 5] [(0, .ref (ad 0)), (2, .int v2), (3, .int v3), (4, .long v4), (8, .int v8)] rfl ?_
          exact zu8_likely_311 K hret hB278 h
        · have h := (And.right h) c53
          refine zz_aload_n K 0 dX8_likely_300 rfl rfl ?_
          refine zg8_34 K zin_X8_likely_X8 zlk_X8_likely_3 dX8_likely_301 ?_
          refine zz_iload K 5 dX8_likely_304 rfl ?_
          obtain ⟨hin, h⟩ := h
          refine zz_laload K 1 (wM_at_34 ad cy σ) rfl hin dX8_likely_306 ?_
          refine zz_goto K 311 dX8_likely_307 rfl ?_
          refine zz_sub [0, 1, 2, 3, 5] [(0, .ref (ad 0)), (2, .int v2), (3, .int v3), (4, .long v4), (8, .int v8)] rfl ?_
          exact zu8_likely_311 K hret hB278 h
  exact key _ v6 v8 (Nat.lt_succ_self _) h0
set_option maxHeartbeats 4000000 in
set_option maxRecDepth 100000 in
theorem zu8_likely_114 {p : Program} {l : Launch} {e : Env} {s : State} {m : MethodId} {args : Array Value} {below : List Frame} {meth : Method} {c : Code} {Q : State → Prop} {D : va_G} {A : Nat → Prop} {ad : Nat → Nat} {cy : Nat → ClassId} {v1 : Int32} {v2 : Int32} {v3 : Int32} {v4 : Int64} {v6 : Int32} {σ : zz_St} (K : zz_K p s m args c cX8_likely 14 RX8 wsX8_likely D (tysM cy) A (wM ad cy) []) {Qp : Int64 → zz_St → Prop} (hret : ∀ (r : Int64) (σ2 : zz_St), Qp r σ2 → ∀ (pc : Nat) (lv : List (Nat × Value)), decode cX8_likely pc = .ok (.lreturn, 1) → zz_G p l e zrm8_likely s m args below meth c Q D A (wM ad cy) 14 pc lv [.long r] σ2) (h : zq8_likely_114 v1 v2 v3 v4 v6 σ Qp) : zz_G p l e zrm8_likely s m args below meth c Q D A (wM ad cy) 14 114 [(0, .ref (ad 0)), (1, .int v1), (2, .int v2), (3, .int v3), (4, .long v4), (6, .int v6)] [] σ := by
  unfold zq8_likely_114 at h
  obtain ⟨I114, M114, h0, hs⟩ := h
  have key : ∀ (n : Nat) (v4 : Int64) (v6 : Int32) (σ : zz_St), M114 v4 v6 σ < n → I114 v4 v6 σ → zz_G p l e zrm8_likely s m args below meth c Q D A (wM ad cy) 14 114 [(0, .ref (ad 0)), (1, .int v1), (2, .int v2), (3, .int v3), (4, .long v4), (6, .int v6)] [] σ := by
    intro n
    induction n with
    | zero => intro v4 v6 σ hlt; exact absurd hlt (Nat.not_lt_zero _)
    | succ n ih =>
      intro v4 v6 σ hlt hI
      have h := hs v4 v6 σ hI
      have hB114 : ∀ (v4' : Int64) (v6' : Int32) (σ' : zz_St), (fun v4' v6' σ' => I114 v4' v6' σ' ∧ M114 v4' v6' σ' < M114 v4 v6 σ) v4' v6' σ' → zz_G p l e zrm8_likely s m args below meth c Q D A (wM ad cy) 14 114 [(0, .ref (ad 0)), (1, .int v1), (2, .int v2), (3, .int v3), (4, .long v4'), (6, .int v6')] [] σ' := fun v4' v6' σ' hz => ih v4' v6' σ' (Nat.lt_of_lt_of_le hz.2 (Nat.le_of_lt_succ hlt)) hz.1
      refine zz_iload K 5 dX8_likely_114 rfl ?_
      refine zz_iload_n K 1 dX8_likely_116 rfl rfl ?_
      refine zz_icmp_ge K 272 dX8_likely_117 rfl (fun c54 => ?_) (fun c54 => ?_)
      · have h := (And.left h) c54
        refine zz_lconst K (v := (0 : Int64)) dX8_likely_272 rfl ?_
        refine zz_lstore K [(6, .long (0 : Int64)), (0, .ref (ad 0)), (1, .int v1), (2, .int v2), (3, .int v3), (4, .long v4)] dX8_likely_273 (by decide) rfl ?_
        refine zz_iconst K dX8_likely_275 zci_0 ?_
        refine zz_istore K [(8, .int (0 : Int32)), (6, .long (0 : Int64)), (0, .ref (ad 0)), (1, .int v1), (2, .int v2), (3, .int v3), (4, .long v4)] dX8_likely_276 (by decide) rfl ?_
        refine zz_sub [2, 4, 5, 6, 1, 0] [(0, .ref (ad 0)), (2, .int v2), (3, .int v3), (4, .long v4), (6, .long (0 : Int64)), (8, .int (0 : Int32))] rfl ?_
        exact zu8_likely_278 K hret h
      · have h := (And.right h) c54
        refine zz_iconst K dX8_likely_120 zci_0 ?_
        refine zz_istore K [(7, .int (0 : Int32)), (0, .ref (ad 0)), (1, .int v1), (2, .int v2), (3, .int v3), (4, .long v4), (6, .int v6)] dX8_likely_121 (by decide) rfl ?_
        refine zz_sub [1, 2, 3, 4, 5, 6, 0] [(0, .ref (ad 0)), (1, .int v1), (2, .int v2), (3, .int v3), (4, .long v4), (6, .int v6), (7, .int (0 : Int32))] rfl ?_
        exact zu8_likely_123 K hret hB114 h
  exact key _ v4 v6 σ (Nat.lt_succ_self _) h0
set_option maxHeartbeats 4000000 in
set_option maxRecDepth 100000 in
theorem zu8_likely_76 {p : Program} {l : Launch} {e : Env} {s : State} {m : MethodId} {args : Array Value} {below : List Frame} {meth : Method} {c : Code} {Q : State → Prop} {D : va_G} {A : Nat → Prop} {ad : Nat → Nat} {cy : Nat → ClassId} {v1 : Int32} {v2 : Int32} {v3 : Int32} {v4 : Int32} {σ : zz_St} (K : zz_K p s m args c cX8_likely 14 RX8 wsX8_likely D (tysM cy) A (wM ad cy) []) {Qp : Int64 → zz_St → Prop} (hret : ∀ (r : Int64) (σ2 : zz_St), Qp r σ2 → ∀ (pc : Nat) (lv : List (Nat × Value)), decode cX8_likely pc = .ok (.lreturn, 1) → zz_G p l e zrm8_likely s m args below meth c Q D A (wM ad cy) 14 pc lv [.long r] σ2) (h : zq8_likely_76 v1 v2 v3 v4 σ Qp) : zz_G p l e zrm8_likely s m args below meth c Q D A (wM ad cy) 14 76 [(0, .ref (ad 0)), (1, .int v1), (2, .int v2), (3, .int v3), (4, .int v4)] [] σ := by
  unfold zq8_likely_76 at h
  obtain ⟨I76, M76, h0, hs⟩ := h
  have key : ∀ (n : Nat) (v4 : Int32) (σ : zz_St), M76 v4 σ < n → I76 v4 σ → zz_G p l e zrm8_likely s m args below meth c Q D A (wM ad cy) 14 76 [(0, .ref (ad 0)), (1, .int v1), (2, .int v2), (3, .int v3), (4, .int v4)] [] σ := by
    intro n
    induction n with
    | zero => intro v4 σ hlt; exact absurd hlt (Nat.not_lt_zero _)
    | succ n ih =>
      intro v4 σ hlt hI
      have h := hs v4 σ hI
      have hB76 : ∀ (v4' : Int32) (σ' : zz_St), (fun v4' σ' => I76 v4' σ' ∧ M76 v4' σ' < M76 v4 σ) v4' σ' → zz_G p l e zrm8_likely s m args below meth c Q D A (wM ad cy) 14 76 [(0, .ref (ad 0)), (1, .int v1), (2, .int v2), (3, .int v3), (4, .int v4')] [] σ' := fun v4' σ' hz => ih v4' σ' (Nat.lt_of_lt_of_le hz.2 (Nat.le_of_lt_succ hlt)) hz.1
      refine zz_iload K 4 dX8_likely_76 rfl ?_
      refine zz_aload_n K 0 dX8_likely_78 rfl rfl ?_
      refine zg8_27 K zin_X8_likely_X8 zlk_X8_likely_2 dX8_likely_79 ?_
      refine zz_icmp_ge K 108 dX8_likely_82 rfl (fun c55 => ?_) (fun c55 => ?_)
      · have h := (And.left h) c55
        refine zz_lconst K (v := (1 : Int64)) dX8_likely_108 rfl ?_
        refine zz_lstore K [(4, .long (1 : Int64)), (0, .ref (ad 0)), (1, .int v1), (2, .int v2), (3, .int v3)] dX8_likely_109 (by decide) rfl ?_
        refine zz_iconst K dX8_likely_111 zci_0 ?_
        refine zz_istore K [(6, .int (0 : Int32)), (4, .long (1 : Int64)), (0, .ref (ad 0)), (1, .int v1), (2, .int v2), (3, .int v3)] dX8_likely_112 (by decide) rfl ?_
        refine zz_sub [2, 3, 4, 5, 1, 0] [(0, .ref (ad 0)), (1, .int v1), (2, .int v2), (3, .int v3), (4, .long (1 : Int64)), (6, .int (0 : Int32))] rfl ?_
        exact zu8_likely_114 K hret h
      · have h := (And.right h) c55
        refine zz_aload_n K 0 dX8_likely_85 rfl rfl ?_
        refine zg8_34 K zin_X8_likely_X8 zlk_X8_likely_3 dX8_likely_86 ?_
        refine zz_iload K 4 dX8_likely_89 rfl ?_
        refine zz_iload K 4 dX8_likely_91 rfl ?_
        refine zz_if_ne K 100 dX8_likely_93 rfl (fun c56 => ?_) (fun c56 => ?_)
        · have h := (And.left h) c56
          refine zz_lconst K (v := (0 : Int64)) dX8_likely_100 rfl ?_
          exact zu8_likely_101 K hret hB76 h
        · have h := (And.right h) c56
          refine zz_lconst K (v := (1 : Int64)) dX8_likely_96 rfl ?_
          refine zz_goto K 101 dX8_likely_97 rfl ?_
          exact zu8_likely_101 K hret hB76 h
  exact key _ v4 σ (Nat.lt_succ_self _) h0
set_option maxHeartbeats 4000000 in
set_option maxRecDepth 100000 in
theorem zu8_likely_0 {p : Program} {l : Launch} {e : Env} {s : State} {m : MethodId} {args : Array Value} {below : List Frame} {meth : Method} {c : Code} {Q : State → Prop} {D : va_G} {A : Nat → Prop} {ad : Nat → Nat} {cy : Nat → ClassId} {v1 : Int32} {v2 : Int32} {v3 : Int32} {σ : zz_St} (K : zz_K p s m args c cX8_likely 14 RX8 wsX8_likely D (tysM cy) A (wM ad cy) []) {Qp : Int64 → zz_St → Prop} (hret : ∀ (r : Int64) (σ2 : zz_St), Qp r σ2 → ∀ (pc : Nat) (lv : List (Nat × Value)), decode cX8_likely pc = .ok (.lreturn, 1) → zz_G p l e zrm8_likely s m args below meth c Q D A (wM ad cy) 14 pc lv [.long r] σ2) (h : zq8_likely v1 v2 v3 σ Qp) : zz_G p l e zrm8_likely s m args below meth c Q D A (wM ad cy) 14 0 [(0, .ref (ad 0)), (1, .int v1), (2, .int v2), (3, .int v3)] [] σ := by
  unfold zq8_likely at h
  refine zz_aload_n K 0 dX8_likely_0 rfl rfl ?_
  refine zz_iload_n K 2 dX8_likely_1 rfl rfl ?_
  refine zz_callVi1 K zz_nw_nil [.int v2] (zc8_isPlace l D ad cy v2 σ _ h) gX8_likely_X8_isPlace rfl ⟨rfl, rfl⟩ zds_yX8_isPlace_v ⟨Nat.le_of_ble_eq_true rfl, Nat.le_of_ble_eq_true rfl⟩ (wM_at_0 ad cy _) rfl rfl rfl rfl (Nat.le_of_ble_eq_true rfl) dX8_likely_2 (fun r57 h => ?_)
  refine zz_if_ne K 14 dX8_likely_5 rfl (fun c58 => ?_) (fun c58 => ?_)
  · have h := (And.left h) c58
    refine zz_iload_n K 1 dX8_likely_14 rfl rfl ?_
    refine zz_if_ge K 25 dX8_likely_15 rfl (fun c59 => ?_) (fun c59 => ?_)
    · have h := (And.left h) c59
      refine zz_iload_n K 1 dX8_likely_25 rfl rfl ?_
      refine zz_bipush K dX8_likely_26 zcb_12 ?_
      refine zz_icmp_le K 38 dX8_likely_28 rfl (fun c60 => ?_) (fun c60 => ?_)
      · have h := (And.left h) c60
        refine zz_iload_n K 3 dX8_likely_38 rfl rfl ?_
        refine zz_i2l K dX8_likely_39 ?_
        refine zz_lconst K (v := (0 : Int64)) dX8_likely_40 rfl ?_
        refine zz_lconst K (v := (1 : Int64)) dX8_likely_41 rfl ?_
        refine zz_callSi1 K zz_nw_nil [.long (v3.toInt64), .long (0 : Int64), .long (1 : Int64)] (zc8_in l D ad cy (v3.toInt64) (0 : Int64) (1 : Int64) σ _ h) gX8_likely_X8_in rfl ⟨rfl, rfl⟩ zds_yX8_in_s ⟨Nat.le_of_ble_eq_true rfl, Nat.le_of_ble_eq_true rfl⟩ rfl rfl (Nat.le_of_ble_eq_true rfl) dX8_likely_42 (fun r61 h => ?_)
        refine zz_if_ne K 55 dX8_likely_45 rfl (fun c62 => ?_) (fun c62 => ?_)
        · have h := (And.left h) c62
          refine zz_aload_n K 0 dX8_likely_55 rfl rfl ?_
          refine zg8_9 K zin_X8_likely_X8 zlk_X8_likely_1 dX8_likely_56 ?_
          refine zz_if_ne K 69 dX8_likely_59 rfl (fun c63 => ?_) (fun c63 => ?_)
          · have h := (And.left h) c63
            refine zz_aload_n K 0 dX8_likely_69 rfl rfl ?_
            refine zz_callVv K zz_nw_nil [] (zc8_goesThrough l D ad cy  σ _ h) gX8_likely_X8_goesThrough rfl ⟨rfl, rfl⟩ zds_yX8_goesThrough_v ⟨Nat.le_of_ble_eq_true rfl, Nat.le_of_ble_eq_true rfl⟩ (wM_at_0 ad cy _) rfl rfl rfl rfl (Nat.le_of_ble_eq_true rfl) dX8_likely_70 (fun g64 h => ?_)
            refine zz_iconst K dX8_likely_73 zci_0 ?_
            refine zz_istore K [(4, .int (0 : Int32)), (0, .ref (ad 0)), (1, .int v1), (2, .int v2), (3, .int v3)] dX8_likely_74 (by decide) rfl ?_
            refine zz_sub [1, 2, 3, 4, 0] [(0, .ref (ad 0)), (1, .int v1), (2, .int v2), (3, .int v3), (4, .int (0 : Int32))] rfl ?_
            exact zu8_likely_76 K hret h
          · have h := (And.right h) c63
            refine zz_aload_n K 0 dX8_likely_62 rfl rfl ?_
            refine zz_bipush K dX8_likely_63 zcb_m3 ?_
            refine zz_callVl K zz_nw_nil [.int (-3 : Int32)] (zc8_longNo l D ad cy (-3 : Int32) σ _ h) gX8_likely_X8_longNo rfl ⟨rfl, rfl⟩ zds_yX8_longNo_v ⟨Nat.le_of_ble_eq_true rfl, Nat.le_of_ble_eq_true rfl⟩ (wM_at_0 ad cy _) rfl rfl rfl rfl (Nat.le_of_ble_eq_true rfl) dX8_likely_65 (fun r65 g66 h => ?_)
            exact hret _ _ h _ _ dX8_likely_68
        · have h := (And.right h) c62
          refine zz_aload_n K 0 dX8_likely_48 rfl rfl ?_
          refine zz_bipush K dX8_likely_49 zcb_m2 ?_
          refine zz_callVl K zz_nw_nil [.int (-2 : Int32)] (zc8_longNo l D ad cy (-2 : Int32) σ _ h) gX8_likely_X8_longNo rfl ⟨rfl, rfl⟩ zds_yX8_longNo_v ⟨Nat.le_of_ble_eq_true rfl, Nat.le_of_ble_eq_true rfl⟩ (wM_at_0 ad cy _) rfl rfl rfl rfl (Nat.le_of_ble_eq_true rfl) dX8_likely_51 (fun r67 g68 h => ?_)
          exact hret _ _ h _ _ dX8_likely_54
      · have h := (And.right h) c60
        refine zz_aload_n K 0 dX8_likely_31 rfl rfl ?_
        refine zz_bipush K dX8_likely_32 zcb_m6 ?_
        refine zz_callVl K zz_nw_nil [.int (-6 : Int32)] (zc8_longNo l D ad cy (-6 : Int32) σ _ h) gX8_likely_X8_longNo rfl ⟨rfl, rfl⟩ zds_yX8_longNo_v ⟨Nat.le_of_ble_eq_true rfl, Nat.le_of_ble_eq_true rfl⟩ (wM_at_0 ad cy _) rfl rfl rfl rfl (Nat.le_of_ble_eq_true rfl) dX8_likely_34 (fun r69 g70 h => ?_)
        exact hret _ _ h _ _ dX8_likely_37
    · have h := (And.right h) c59
      refine zz_aload_n K 0 dX8_likely_18 rfl rfl ?_
      refine zz_bipush K dX8_likely_19 zcb_m4 ?_
      refine zz_callVl K zz_nw_nil [.int (-4 : Int32)] (zc8_longNo l D ad cy (-4 : Int32) σ _ h) gX8_likely_X8_longNo rfl ⟨rfl, rfl⟩ zds_yX8_longNo_v ⟨Nat.le_of_ble_eq_true rfl, Nat.le_of_ble_eq_true rfl⟩ (wM_at_0 ad cy _) rfl rfl rfl rfl (Nat.le_of_ble_eq_true rfl) dX8_likely_21 (fun r71 g72 h => ?_)
      exact hret _ _ h _ _ dX8_likely_24
  · have h := (And.right h) c58
    refine zz_aload_n K 0 dX8_likely_8 rfl rfl ?_
    refine zz_iconst K dX8_likely_9 zci_m1 ?_
    refine zz_callVl K zz_nw_nil [.int (-1 : Int32)] (zc8_longNo l D ad cy (-1 : Int32) σ _ h) gX8_likely_X8_longNo rfl ⟨rfl, rfl⟩ zds_yX8_longNo_v ⟨Nat.le_of_ble_eq_true rfl, Nat.le_of_ble_eq_true rfl⟩ (wM_at_0 ad cy _) rfl rfl rfl rfl (Nat.le_of_ble_eq_true rfl) dX8_likely_10 (fun r73 g74 h => ?_)
    exact hret _ _ h _ _ dX8_likely_13
set_option maxRecDepth 100000 in
theorem zc8_likely (l : Launch) (D : va_G) (ad : Nat → Nat) (cy : Nat → ClassId) (v1 : Int32) (v2 : Int32) (v3 : Int32) (σ : zz_St) (Qp : Int64 → zz_St → Prop) (h : zq8_likely v1 v2 v3 σ Qp) : zz_Ml l yX8_likely wsX8_likely zrm8_likely D (tysM cy) (wM ad cy) [] [.ref (ad 0), .int v1, .int v2, .int v3] σ Qp :=
  zz_Ml.of zz_nw_nil (wM_ad ad cy) (by decide +kernel) rfl ⟨rfl, rfl⟩ (Nat.le_of_ble_eq_true rfl) (fun p e s m args below meth c A QW K hret => zu8_likely_0 K  hret h)
