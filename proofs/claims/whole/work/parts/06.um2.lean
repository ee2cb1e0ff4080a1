theorem zin_X8_of_X8 : ∀ w ∈ wsX80, w ∈ wsX8_of := fun w h => List.mem_cons_of_mem _ (List.mem_append_right _ h)
theorem zlk_X8_of_2 : Cond.fieldLink RX8 32 "SolidsRolledModel" "prints" "[I" ∈ wsX8_of := List.mem_of_getElem? (i := 2) rfl
theorem zcb_m9 : (Int8.ofInt (-9)).toInt32 = (-9 : Int32) := by decide
theorem zlk_X8_of_1 : Cond.fieldLink RX8 29 "SolidsRolledModel" "tiles" "[I" ∈ wsX8_of := List.mem_of_getElem? (i := 1) rfl
abbrev zrm8_of : Room := { frames := 2, cells := 0, slots := 0, locals := 46 }
set_option maxHeartbeats 4000000 in
set_option maxRecDepth 100000 in
theorem zu8_of_0 {p : Program} {l : Launch} {e : Env} {s : State} {m : MethodId} {args : Array Value} {below : List Frame} {meth : Method} {c : Code} {Q : State → Prop} {D : va_G} {A : Nat → Prop} {ad : Nat → Nat} {cy : Nat → ClassId} {v1 : Int32} {v2 : Int32} {σ : zz_St} (K : zz_K p s m args c cX8_of 3 RX8 wsX8_of D (tysM cy) A (wM ad cy) []) {Qp : Int32 → zz_St → Prop} (hret : ∀ (r : Int32) (σ2 : zz_St), narrow .int (.int r) = .int r → Qp r σ2 → ∀ (pc : Nat) (lv : List (Nat × Value)), decode cX8_of pc = .ok (.ireturn, 1) → zz_G p l e zrm8_of s m args below meth c Q D A (wM ad cy) 3 pc lv [.int r] σ2) (h : zq8_of v1 v2 σ Qp) : zz_G p l e zrm8_of s m args below meth c Q D A (wM ad cy) 3 0 [(0, .ref (ad 0)), (1, .int v1), (2, .int v2)] [] σ := by
  unfold zq8_of at h
  refine zz_aload_n K 0 dX8_of_0 rfl rfl ?_
  refine zz_iload_n K 1 dX8_of_1 rfl rfl ?_
  refine zz_callVi1 K zz_nw_nil [.int v1] (zc8_isTile l D ad cy v1 σ _ h) gX8_of_X8_isTile rfl ⟨rfl, rfl⟩ zds_yX8_isTile_v ⟨Nat.le_of_ble_eq_true rfl, Nat.le_of_ble_eq_true rfl⟩ (wM_at_0 ad cy _) rfl rfl rfl rfl (Nat.le_of_ble_eq_true rfl) dX8_of_2 (fun r11 h => ?_)
  refine zz_if_ne K 14 dX8_of_5 rfl (fun c12 => ?_) (fun c12 => ?_)
  · have h := (And.left h) c12
    refine zz_iload_n K 2 dX8_of_14 rfl rfl ?_
    refine zz_i2l K dX8_of_15 ?_
    refine zz_lconst K (v := (0 : Int64)) dX8_of_16 rfl ?_
    refine zz_lconst K (v := (1 : Int64)) dX8_of_17 rfl ?_
    refine zz_callSi1 K zz_nw_nil [.long (v2.toInt64), .long (0 : Int64), .long (1 : Int64)] (zc8_in l D ad cy (v2.toInt64) (0 : Int64) (1 : Int64) σ _ h) gX8_of_X8_in rfl ⟨rfl, rfl⟩ zds_yX8_in_s ⟨Nat.le_of_ble_eq_true rfl, Nat.le_of_ble_eq_true rfl⟩ rfl rfl (Nat.le_of_ble_eq_true rfl) dX8_of_18 (fun r13 h => ?_)
    refine zz_if_ne K 31 dX8_of_21 rfl (fun c14 => ?_) (fun c14 => ?_)
    · have h := (And.left h) c14
      refine zz_iload_n K 2 dX8_of_31 rfl rfl ?_
      refine zz_if_ne K 44 dX8_of_32 rfl (fun c15 => ?_) (fun c15 => ?_)
      · have h := (And.left h) c15
        refine zz_aload_n K 0 dX8_of_44 rfl rfl ?_
        refine zg8_5 K zin_X8_of_X8 zlk_X8_of_2 dX8_of_45 ?_
        refine zz_iload_n K 1 dX8_of_48 rfl rfl ?_
        obtain ⟨hin, h⟩ := h
        refine zz_iaload K 0 (wM_at_5 ad cy σ) rfl hin dX8_of_49 ?_
        refine zz_if_ge K 58 dX8_of_50 rfl (fun c16 => ?_) (fun c16 => ?_)
        · have h := (And.left h) c16
          refine zz_aload_n K 0 dX8_of_58 rfl rfl ?_
          refine zg8_5 K zin_X8_of_X8 zlk_X8_of_2 dX8_of_59 ?_
          refine zz_iload_n K 1 dX8_of_62 rfl rfl ?_
          obtain ⟨hin, h⟩ := h
          refine zz_iaload K 0 (wM_at_5 ad cy σ) rfl hin dX8_of_63 ?_
          exact hret _ _ rfl h _ _ dX8_of_64
        · have h := (And.right h) c16
          refine zz_bipush K dX8_of_53 zcb_m9 ?_
          refine zz_goto K 64 dX8_of_55 rfl ?_
          exact hret _ _ rfl h _ _ dX8_of_64
      · have h := (And.right h) c15
        refine zz_aload_n K 0 dX8_of_35 rfl rfl ?_
        refine zg8_4 K zin_X8_of_X8 zlk_X8_of_1 dX8_of_36 ?_
        refine zz_iload_n K 1 dX8_of_39 rfl rfl ?_
        obtain ⟨hin, h⟩ := h
        refine zz_iaload K 0 (wM_at_4 ad cy σ) rfl hin dX8_of_40 ?_
        refine zz_goto K 64 dX8_of_41 rfl ?_
        exact hret _ _ rfl h _ _ dX8_of_64
    · have h := (And.right h) c14
      refine zz_aload_n K 0 dX8_of_24 rfl rfl ?_
      refine zz_bipush K dX8_of_25 zcb_m2 ?_
      refine zz_callVi K zz_nw_nil [.int (-2 : Int32)] (zc8_no l D ad cy (-2 : Int32) σ _ h) gX8_of_X8_no rfl ⟨rfl, rfl⟩ zds_yX8_no_v ⟨Nat.le_of_ble_eq_true rfl, Nat.le_of_ble_eq_true rfl⟩ (wM_at_0 ad cy _) rfl rfl rfl rfl (Nat.le_of_ble_eq_true rfl) dX8_of_27 (fun r17 g18 h => ?_)
      exact hret _ _ rfl h _ _ dX8_of_30
  · have h := (And.right h) c12
    refine zz_aload_n K 0 dX8_of_8 rfl rfl ?_
    refine zz_iconst K dX8_of_9 zci_m1 ?_
    refine zz_callVi K zz_nw_nil [.int (-1 : Int32)] (zc8_no l D ad cy (-1 : Int32) σ _ h) gX8_of_X8_no rfl ⟨rfl, rfl⟩ zds_yX8_no_v ⟨Nat.le_of_ble_eq_true rfl, Nat.le_of_ble_eq_true rfl⟩ (wM_at_0 ad cy _) rfl rfl rfl rfl (Nat.le_of_ble_eq_true rfl) dX8_of_10 (fun r19 g20 h => ?_)
    exact hret _ _ rfl h _ _ dX8_of_13
set_option maxRecDepth 100000 in
theorem zc8_of (l : Launch) (D : va_G) (ad : Nat → Nat) (cy : Nat → ClassId) (v1 : Int32) (v2 : Int32) (σ : zz_St) (Qp : Int32 → zz_St → Prop) (h : zq8_of v1 v2 σ Qp) : zz_Mi l yX8_of wsX8_of zrm8_of D (tysM cy) (wM ad cy) [] [.ref (ad 0), .int v1, .int v2] σ Qp :=
  zz_Mi.of zz_nw_nil (wM_ad ad cy) (by decide +kernel) rfl ⟨rfl, rfl⟩ (Nat.le_of_ble_eq_true rfl) (fun p e s m args below meth c A QW K hret => zu8_of_0 K  hret h)
theorem zlk_X8_places_1 : Cond.constantLong RX8 142 (5) ∈ wsX8_places := List.mem_of_getElem? (i := 1) rfl
theorem zin_X8_places_X8 : ∀ w ∈ wsX80, w ∈ wsX8_places := fun w h => List.mem_cons_of_mem _ (List.mem_append_right _ h)
theorem zlk_X8_places_2 : Cond.fieldLink RX8 133 "SolidsRolledModel" "kind" "I" ∈ wsX8_places := List.mem_of_getElem? (i := 2) rfl
theorem zlk_X8_places_3 : Cond.fieldLink RX8 147 "SolidsRolledModel" "place" "I" ∈ wsX8_places := List.mem_of_getElem? (i := 3) rfl
theorem zlk_X8_places_4 : Cond.fieldLink RX8 48 "SolidsRolledModel" "facesWere" "[I" ∈ wsX8_places := List.mem_of_getElem? (i := 4) rfl
theorem zlk_X8_places_5 : Cond.fieldLink RX8 42 "SolidsRolledModel" "faces" "[I" ∈ wsX8_places := List.mem_of_getElem? (i := 5) rfl
theorem zlk_X8_places_6 : Cond.fieldLink RX8 38 "SolidsRolledModel" "isThere" "Z" ∈ wsX8_places := List.mem_of_getElem? (i := 6) rfl
theorem zlk_X8_places_7 : Cond.fieldLink RX8 198 "SolidsRolledModel" "done" "I" ∈ wsX8_places := List.mem_of_getElem? (i := 7) rfl
theorem zds_yX8_isPlace_v : yX8_isPlace.cls = RX8 ∧ yX8_isPlace.cls ≠ "java/lang/invoke/MethodHandle" ∧ yX8_isPlace.cls ≠ "java/lang/invoke/VarHandle" ∧ (parseMethodDescriptor yX8_isPlace.desc).map (fun d => d.parameters.length) = some 1 := by decide +kernel
abbrev zrm8_places : Room := { frames := 4, cells := 0, slots := 0, locals := 90 }
set_option maxHeartbeats 4000000 in
set_option maxRecDepth 100000 in
theorem zu8_places_132 {p : Program} {l : Launch} {e : Env} {s : State} {m : MethodId} {args : Array Value} {below : List Frame} {meth : Method} {c : Code} {Q : State → Prop} {D : va_G} {A : Nat → Prop} {ad : Nat → Nat} {cy : Nat → ClassId} {v7 : Int32} {v8 : Int32} {σ : zz_St} (K : zz_K p s m args c cX8_places 9 RX8 wsX8_places D (tysM cy) A (wM ad cy) []) {Qp : Int32 → zz_St → Prop} (hret : ∀ (r : Int32) (σ2 : zz_St), narrow .int (.int r) = .int r → Qp r σ2 → ∀ (pc : Nat) (lv : List (Nat × Value)), decode cX8_places pc = .ok (.ireturn, 1) → zz_G p l e zrm8_places s m args below meth c Q D A (wM ad cy) 9 pc lv [.int r] σ2) (h : zq8_places_132 v7 v8 σ Qp) : zz_G p l e zrm8_places s m args below meth c Q D A (wM ad cy) 9 132 [(0, .ref (ad 0)), (5, .ref (ad 13)), (7, .int v7), (8, .int v8)] [] σ := by
  unfold zq8_places_132 at h
  obtain ⟨I132, M132, h0, hs⟩ := h
  have key : ∀ (n : Nat) (v8 : Int32) (σ : zz_St), M132 v8 σ < n → I132 v8 σ → zz_G p l e zrm8_places s m args below meth c Q D A (wM ad cy) 9 132 [(0, .ref (ad 0)), (5, .ref (ad 13)), (7, .int v7), (8, .int v8)] [] σ := by
    intro n
    induction n with
    | zero => intro v8 σ hlt; exact absurd hlt (Nat.not_lt_zero _)
    | succ n ih =>
      intro v8 σ hlt hI
      have h := hs v8 σ hI
      have hB132 : ∀ (v8' : Int32) (σ' : zz_St), (fun v8' σ' => I132 v8' σ' ∧ M132 v8' σ' < M132 v8 σ) v8' σ' → zz_G p l e zrm8_places s m args below meth c Q D A (wM ad cy) 9 132 [(0, .ref (ad 0)), (5, .ref (ad 13)), (7, .int v7), (8, .int v8')] [] σ' := fun v8' σ' hz => ih v8' σ' (Nat.lt_of_lt_of_le hz.2 (Nat.le_of_lt_succ hlt)) hz.1
      refine zz_iload K 3 dX8_places_132 rfl ?_
      refine zz_bipush K dX8_places_134 zcb_6 ?_
      refine zz_icmp_ge K 157 dX8_places_136 rfl (fun c26 => ?_) (fun c26 => ?_)
      · have h := (And.left h) c26
        refine zz_aload_n K 0 dX8_places_157 rfl rfl ?_
        refine zz_iload K 2 dX8_places_158 rfl ?_
        refine zz_callVi K zz_nw_nil [.int v7] (zc8_no l D ad cy v7 σ _ h) gX8_places_X8_no rfl ⟨rfl, rfl⟩ zds_yX8_no_v ⟨Nat.le_of_ble_eq_true rfl, Nat.le_of_ble_eq_true rfl⟩ (wM_at_0 ad cy _) rfl rfl rfl rfl (Nat.le_of_ble_eq_true rfl) dX8_places_160 (fun r27 g28 h => ?_)
        exact hret _ _ rfl h _ _ dX8_places_163
      · have h := (And.right h) c26
        refine zz_aload_n K 0 dX8_places_139 rfl rfl ?_
        refine zg8_10 K zin_X8_places_X8 zlk_X8_places_5 dX8_places_140 ?_
        refine zz_iload K 3 dX8_places_143 rfl ?_
        refine zz_aload K 1 dX8_places_145 rfl ?_
        refine zz_iload K 3 dX8_places_147 rfl ?_
        obtain ⟨hin, h⟩ := h
        refine zz_iaload K 0 (wM_at_13 ad cy σ) rfl hin dX8_places_149 ?_
        obtain ⟨hin, h⟩ := h
        refine zz_iastore K 0 (σ2 := zz_A σ 10 (upd ((σ).2.1 10) v8.toNatClampNeg ((σ).2.1 13 v8.toNatClampNeg))) (wM_at_10 ad cy σ) (wM_set_10 ad cy σ _) rfl hin dX8_places_150 ?_
        refine zz_nms (fun g29 eg29 => ?_)
        have h := h g29 eg29
        refine zz_iinc K 3 [(8, .int (v8 + (1 : Int32))), (0, .ref (ad 0)), (5, .ref (ad 13)), (7, .int v7)] dX8_places_151 zci_1 rfl (by decide) rfl ?_
        refine zz_goto K 132 dX8_places_154 rfl ?_
        refine zz_sub [1, 2, 3, 0] [(0, .ref (ad 0)), (5, .ref (ad 13)), (7, .int v7), (8, .int (v8 + (1 : Int32)))] rfl ?_
        exact hB132 (v8 + (1 : Int32)) g29 h
  exact key _ v8 σ (Nat.lt_succ_self _) h0
set_option maxHeartbeats 4000000 in
set_option maxRecDepth 100000 in
theorem zu8_places_113 {p : Program} {l : Launch} {e : Env} {s : State} {m : MethodId} {args : Array Value} {below : List Frame} {meth : Method} {c : Code} {Q : State → Prop} {D : va_G} {A : Nat → Prop} {ad : Nat → Nat} {cy : Nat → ClassId} {v3 : Int32} {v4 : Int32} {v7 : Int32} {σ : zz_St} (K : zz_K p s m args c cX8_places 9 RX8 wsX8_places D (tysM cy) A (wM ad cy) []) {Qp : Int32 → zz_St → Prop} (hret : ∀ (r : Int32) (σ2 : zz_St), narrow .int (.int r) = .int r → Qp r σ2 → ∀ (pc : Nat) (lv : List (Nat × Value)), decode cX8_places pc = .ok (.ireturn, 1) → zz_G p l e zrm8_places s m args below meth c Q D A (wM ad cy) 9 pc lv [.int r] σ2) (h : zq8_places_113 v3 v4 v7 σ Qp) : zz_G p l e zrm8_places s m args below meth c Q D A (wM ad cy) 9 113 [(0, .ref (ad 0)), (3, .int v3), (4, .int v4), (5, .ref (ad 13)), (7, .int v7)] [] σ := by
  unfold zq8_places_113 at h
  refine zz_iload K 4 dX8_places_113 rfl ?_
  refine zz_if_eq K 164 dX8_places_115 rfl (fun c30 => ?_) (fun c30 => ?_)
  · have h := (And.left h) c30
    refine zz_aload_n K 0 dX8_places_164 rfl rfl ?_
    refine zz_iconst K dX8_places_165 zci_1 ?_
    refine zp8_9 K zin_X8_places_X8 zlk_X8_places_6 (Or.inr rfl) dX8_places_166 ?_
    refine zz_nms (fun g31 eg31 => ?_)
    have h := h g31 eg31
    refine zz_aload_n K 0 dX8_places_169 rfl rfl ?_
    refine zz_iconst K dX8_places_170 zci_0 ?_
    refine zp8_19 K zin_X8_places_X8 zlk_X8_places_7 dX8_places_171 ?_
    refine zz_nms (fun g32 eg32 => ?_)
    have h := h g32 eg32
    refine zz_iconst K dX8_places_174 zci_1 ?_
    exact hret _ _ rfl h _ _ dX8_places_175
  · have h := (And.right h) c30
    refine zz_aload_n K 0 dX8_places_118 rfl rfl ?_
    refine zz_iload_n K 1 dX8_places_119 rfl rfl ?_
    refine zp8_7 K zin_X8_places_X8 zlk_X8_places_2 dX8_places_120 ?_
    refine zz_nms (fun g33 eg33 => ?_)
    have h := h g33 eg33
    refine zz_aload_n K 0 dX8_places_123 rfl rfl ?_
    refine zz_iload K 2 dX8_places_124 rfl ?_
    refine zp8_8 K zin_X8_places_X8 zlk_X8_places_3 dX8_places_126 ?_
    refine zz_nms (fun g34 eg34 => ?_)
    have h := h g34 eg34
    refine zz_iconst K dX8_places_129 zci_0 ?_
    refine zz_istore K [(8, .int (0 : Int32)), (0, .ref (ad 0)), (3, .int v3), (4, .int v4), (5, .ref (ad 13)), (7, .int v7)] dX8_places_130 (by decide) rfl ?_
    refine zz_sub [1, 4, 5, 0] [(0, .ref (ad 0)), (5, .ref (ad 13)), (7, .int v7), (8, .int (0 : Int32))] rfl ?_
    exact zu8_places_132 K hret h
set_option maxHeartbeats 4000000 in
set_option maxRecDepth 100000 in
theorem zu8_places_111 {p : Program} {l : Launch} {e : Env} {s : State} {m : MethodId} {args : Array Value} {below : List Frame} {meth : Method} {c : Code} {Q : State → Prop} {D : va_G} {A : Nat → Prop} {ad : Nat → Nat} {cy : Nat → ClassId} {v3 : Int32} {v4 : Int32} {s0 : Int32} {σ : zz_St} (K : zz_K p s m args c cX8_places 9 RX8 wsX8_places D (tysM cy) A (wM ad cy) []) {Qp : Int32 → zz_St → Prop} (hret : ∀ (r : Int32) (σ2 : zz_St), narrow .int (.int r) = .int r → Qp r σ2 → ∀ (pc : Nat) (lv : List (Nat × Value)), decode cX8_places pc = .ok (.ireturn, 1) → zz_G p l e zrm8_places s m args below meth c Q D A (wM ad cy) 9 pc lv [.int r] σ2) (h : zq8_places_111 v3 v4 s0 σ Qp) : zz_G p l e zrm8_places s m args below meth c Q D A (wM ad cy) 9 111 [(0, .ref (ad 0)), (3, .int v3), (4, .int v4), (5, .ref (ad 13))] [.int s0] σ := by
  unfold zq8_places_111 at h
  refine zz_istore K [(7, .int s0), (0, .ref (ad 0)), (3, .int v3), (4, .int v4), (5, .ref (ad 13))] dX8_places_111 (by decide) rfl ?_
  refine zz_sub [1, 2, 3, 4, 0] [(0, .ref (ad 0)), (3, .int v3), (4, .int v4), (5, .ref (ad 13)), (7, .int s0)] rfl ?_
  exact zu8_places_113 K hret h
set_option maxHeartbeats 4000000 in
set_option maxRecDepth 100000 in
theorem zu8_places_86 {p : Program} {l : Launch} {e : Env} {s : State} {m : MethodId} {args : Array Value} {below : List Frame} {meth : Method} {c : Code} {Q : State → Prop} {D : va_G} {A : Nat → Prop} {ad : Nat → Nat} {cy : Nat → ClassId} {v2 : Int32} {v3 : Int32} {v4 : Int32} {v6 : Int32} {s0 : Int32} {σ : zz_St} (K : zz_K p s m args c cX8_places 9 RX8 wsX8_places D (tysM cy) A (wM ad cy) []) {Qp : Int32 → zz_St → Prop} (hret : ∀ (r : Int32) (σ2 : zz_St), narrow .int (.int r) = .int r → Qp r σ2 → ∀ (pc : Nat) (lv : List (Nat × Value)), decode cX8_places pc = .ok (.ireturn, 1) → zz_G p l e zrm8_places s m args below meth c Q D A (wM ad cy) 9 pc lv [.int r] σ2) (h : zq8_places_86 v2 v3 v4 v6 s0 σ Qp) : zz_G p l e zrm8_places s m args below meth c Q D A (wM ad cy) 9 86 [(0, .ref (ad 0)), (2, .int v2), (3, .int v3), (4, .int v4), (5, .ref (ad 13)), (6, .int v6)] [.int s0] σ := by
  unfold zq8_places_86 at h
  refine zz_istore K [(7, .int s0), (0, .ref (ad 0)), (2, .int v2), (3, .int v3), (4, .int v4), (5, .ref (ad 13)), (6, .int v6)] dX8_places_86 (by decide) rfl ?_
  refine zz_iload K 6 dX8_places_88 rfl ?_
  refine zz_if_eq K 113 dX8_places_90 rfl (fun c35 => ?_) (fun c35 => ?_)
  · have h := (And.left h) c35
    refine zz_sub [1, 3, 4, 5, 0] [(0, .ref (ad 0)), (3, .int v3), (4, .int v4), (5, .ref (ad 13)), (7, .int s0)] rfl ?_
    exact zu8_places_113 K hret h
  · have h := (And.right h) c35
    refine zz_aload_n K 1 dX8_places_93 rfl rfl ?_
    refine zz_iload_n K 2 dX8_places_94 rfl rfl ?_
    refine zz_callVv K zz_nw_nil [.int v2] (zc8_placesAt l D ad cy v2 σ _ h) gX8_places_X8_placesAt rfl ⟨rfl, rfl⟩ zds_yX8_placesAt_v ⟨Nat.le_of_ble_eq_true rfl, Nat.le_of_ble_eq_true rfl⟩ (wM_at_0 ad cy _) rfl rfl rfl rfl (Nat.le_of_ble_eq_true rfl) dX8_places_95 (fun g36 h => ?_)
    refine zz_aload_n K 1 dX8_places_98 rfl rfl ?_
    refine zz_callVi K zz_nw_nil [] (zc8_mayLie l D ad cy  g36 _ h) gX8_places_X8_mayLie rfl ⟨rfl, rfl⟩ zds_yX8_mayLie_v ⟨Nat.le_of_ble_eq_true rfl, Nat.le_of_ble_eq_true rfl⟩ (wM_at_0 ad cy _) rfl rfl rfl rfl (Nat.le_of_ble_eq_true rfl) dX8_places_99 (fun r37 g38 h => ?_)
    refine zz_if_eq K 109 dX8_places_102 rfl (fun c39 => ?_) (fun c39 => ?_)
    · have h := (And.left h) c39
      refine zz_bipush K dX8_places_109 zcb_m3 ?_
      refine zz_sub [1, 3, 4, 5] [(0, .ref (ad 0)), (3, .int v3), (4, .int v4), (5, .ref (ad 13))] rfl ?_
      exact zu8_places_111 K hret h
    · have h := (And.right h) c39
      refine zz_iconst K dX8_places_105 zci_0 ?_
      refine zz_goto K 111 dX8_places_106 rfl ?_
      refine zz_sub [1, 3, 4, 5] [(0, .ref (ad 0)), (3, .int v3), (4, .int v4), (5, .ref (ad 13))] rfl ?_
      exact zu8_places_111 K hret h
set_option maxHeartbeats 4000000 in
set_option maxRecDepth 100000 in
theorem zu8_places_39 {p : Program} {l : Launch} {e : Env} {s : State} {m : MethodId} {args : Array Value} {below : List Frame} {meth : Method} {c : Code} {Q : State → Prop} {D : va_G} {A : Nat → Prop} {ad : Nat → Nat} {cy : Nat → ClassId} {v1 : Int32} {v2 : Int32} {v3 : Int32} {v4 : Int32} {v6 : Int32} {σ : zz_St} (K : zz_K p s m args c cX8_places 9 RX8 wsX8_places D (tysM cy) A (wM ad cy) []) {Qp : Int32 → zz_St → Prop} (hret : ∀ (r : Int32) (σ2 : zz_St), narrow .int (.int r) = .int r → Qp r σ2 → ∀ (pc : Nat) (lv : List (Nat × Value)), decode cX8_places pc = .ok (.ireturn, 1) → zz_G p l e zrm8_places s m args below meth c Q D A (wM ad cy) 9 pc lv [.int r] σ2) (h : zq8_places_39 v1 v2 v3 v4 v6 σ Qp) : zz_G p l e zrm8_places s m args below meth c Q D A (wM ad cy) 9 39 [(0, .ref (ad 0)), (1, .int v1), (2, .int v2), (3, .int v3), (4, .int v4), (5, .ref (ad 13)), (6, .int v6)] [] σ := by
  unfold zq8_places_39 at h
  obtain ⟨I39, M39, h0, hs⟩ := h
  have key : ∀ (n : Nat) (v6 : Int32) (σ : zz_St), M39 v6 σ < n → I39 v6 σ → zz_G p l e zrm8_places s m args below meth c Q D A (wM ad cy) 9 39 [(0, .ref (ad 0)), (1, .int v1), (2, .int v2), (3, .int v3), (4, .int v4), (5, .ref (ad 13)), (6, .int v6)] [] σ := by
    intro n
    induction n with
    | zero => intro v6 σ hlt; exact absurd hlt (Nat.not_lt_zero _)
    | succ n ih =>
      intro v6 σ hlt hI
      have h := hs v6 σ hI
      have hB39 : ∀ (v6' : Int32) (σ' : zz_St), (fun v6' σ' => I39 v6' σ' ∧ M39 v6' σ' < M39 v6 σ) v6' σ' → zz_G p l e zrm8_places s m args below meth c Q D A (wM ad cy) 9 39 [(0, .ref (ad 0)), (1, .int v1), (2, .int v2), (3, .int v3), (4, .int v4), (5, .ref (ad 13)), (6, .int v6')] [] σ' := fun v6' σ' hz => ih v6' σ' (Nat.lt_of_lt_of_le hz.2 (Nat.le_of_lt_succ hlt)) hz.1
      refine zz_iload K 6 dX8_places_39 rfl ?_
      refine zz_bipush K dX8_places_41 zcb_6 ?_
      refine zz_icmp_ge K 64 dX8_places_43 rfl (fun c40 => ?_) (fun c40 => ?_)
      · have h := (And.left h) c40
        refine zz_aload_n K 0 dX8_places_64 rfl rfl ?_
        refine zz_iload_n K 1 dX8_places_65 rfl rfl ?_
        refine zp8_7 K zin_X8_places_X8 zlk_X8_places_2 dX8_places_66 ?_
        refine zz_nms (fun g41 eg41 => ?_)
        have h := h g41 eg41
        refine zz_aload_n K 0 dX8_places_69 rfl rfl ?_
        refine zz_iload_n K 2 dX8_places_70 rfl rfl ?_
        refine zz_callVi1 K zz_nw_nil [.int v2] (zc8_isPlace l D ad cy v2 g41 _ h) gX8_places_X8_isPlace rfl ⟨rfl, rfl⟩ zds_yX8_isPlace_v ⟨Nat.le_of_ble_eq_true rfl, Nat.le_of_ble_eq_true rfl⟩ (wM_at_0 ad cy _) rfl rfl rfl rfl (Nat.le_of_ble_eq_true rfl) dX8_places_71 (fun r42 h => ?_)
        refine zz_istore K [(6, .int r42), (0, .ref (ad 0)), (1, .int v1), (2, .int v2), (3, .int v3), (4, .int v4), (5, .ref (ad 13))] dX8_places_74 (by decide) rfl ?_
        refine zz_iload K 0 dX8_places_76 rfl ?_
        refine zz_if_eq K 85 dX8_places_78 rfl (fun c43 => ?_) (fun c43 => ?_)
        · have h := (And.left h) c43
          refine zz_iconst K dX8_places_85 zci_m1 ?_
          refine zz_sub [1, 3, 4, 5, 6, 0] [(0, .ref (ad 0)), (2, .int v2), (3, .int v3), (4, .int v4), (5, .ref (ad 13)), (6, .int r42)] rfl ?_
          exact zu8_places_86 K hret h
        · have h := (And.right h) c43
          refine zz_iconst K dX8_places_81 zci_0 ?_
          refine zz_goto K 86 dX8_places_82 rfl ?_
          refine zz_sub [1, 3, 4, 5, 6, 0] [(0, .ref (ad 0)), (2, .int v2), (3, .int v3), (4, .int v4), (5, .ref (ad 13)), (6, .int r42)] rfl ?_
          exact zu8_places_86 K hret h
      · have h := (And.right h) c40
        refine zz_aload K 5 dX8_places_46 rfl ?_
        refine zz_iload K 6 dX8_places_48 rfl ?_
        refine zz_aload_n K 0 dX8_places_50 rfl rfl ?_
        refine zg8_10 K zin_X8_places_X8 zlk_X8_places_5 dX8_places_51 ?_
        refine zz_iload K 6 dX8_places_54 rfl ?_
        obtain ⟨hin, h⟩ := h
        refine zz_iaload K 0 (wM_at_10 ad cy σ) rfl hin dX8_places_56 ?_
        obtain ⟨hin, h⟩ := h
        refine zz_iastore K 0 (σ2 := zz_A σ 13 (upd ((σ).2.1 13) v6.toNatClampNeg ((σ).2.1 10 v6.toNatClampNeg))) (wM_at_13 ad cy σ) (wM_set_13 ad cy σ _) rfl hin dX8_places_57 ?_
        refine zz_nms (fun g44 eg44 => ?_)
        have h := h g44 eg44
        refine zz_iinc K 6 [(6, .int (v6 + (1 : Int32))), (0, .ref (ad 0)), (1, .int v1), (2, .int v2), (3, .int v3), (4, .int v4), (5, .ref (ad 13))] dX8_places_58 zci_1 rfl (by decide) rfl ?_
        refine zz_goto K 39 dX8_places_61 rfl ?_
        refine zz_sub [1, 2, 3, 4, 5, 6, 0] [(0, .ref (ad 0)), (1, .int v1), (2, .int v2), (3, .int v3), (4, .int v4), (5, .ref (ad 13)), (6, .int (v6 + (1 : Int32)))] rfl ?_
        exact hB39 (v6 + (1 : Int32)) g44 h
  exact key _ v6 σ (Nat.lt_succ_self _) h0
set_option maxHeartbeats 4000000 in
set_option maxRecDepth 100000 in
theorem zu8_places_0 {p : Program} {l : Launch} {e : Env} {s : State} {m : MethodId} {args : Array Value} {below : List Frame} {meth : Method} {c : Code} {Q : State → Prop} {D : va_G} {A : Nat → Prop} {ad : Nat → Nat} {cy : Nat → ClassId} {v1 : Int32} {v2 : Int32} {σ : zz_St} (K : zz_K p s m args c cX8_places 9 RX8 wsX8_places D (tysM cy) A (wM ad cy) []) {Qp : Int32 → zz_St → Prop} (hret : ∀ (r : Int32) (σ2 : zz_St), narrow .int (.int r) = .int r → Qp r σ2 → ∀ (pc : Nat) (lv : List (Nat × Value)), decode cX8_places pc = .ok (.ireturn, 1) → zz_G p l e zrm8_places s m args below meth c Q D A (wM ad cy) 9 pc lv [.int r] σ2) (h : zq8_places v1 v2 σ Qp) : zz_G p l e zrm8_places s m args below meth c Q D A (wM ad cy) 9 0 [(0, .ref (ad 0)), (1, .int v1), (2, .int v2)] [] σ := by
  unfold zq8_places at h
  refine zz_iload_n K 1 dX8_places_0 rfl rfl ?_
  refine zz_i2l K dX8_places_1 ?_
  refine zz_lconst K (v := (0 : Int64)) dX8_places_2 rfl ?_
  refine zz_ldc2 K zlk_X8_places_1 dX8_places_3 ?_
  refine zz_callSi1 K zz_nw_nil [.long (v1.toInt64), .long (0 : Int64), .long (5 : Int64)] (zc8_in l D ad cy (v1.toInt64) (0 : Int64) (5 : Int64) σ _ h) gX8_places_X8_in rfl ⟨rfl, rfl⟩ zds_yX8_in_s ⟨Nat.le_of_ble_eq_true rfl, Nat.le_of_ble_eq_true rfl⟩ rfl rfl (Nat.le_of_ble_eq_true rfl) dX8_places_6 (fun r45 h => ?_)
  refine zz_if_ne K 19 dX8_places_9 rfl (fun c46 => ?_) (fun c46 => ?_)
  · have h := (And.left h) c46
    refine zz_aload_n K 0 dX8_places_19 rfl rfl ?_
    refine zg8_7 K zin_X8_places_X8 zlk_X8_places_2 dX8_places_20 ?_
    refine zz_nmi (fun x47 ex47 => ?_)
    have h := h x47 ex47
    refine zz_istore_n K [(3, .int x47), (0, .ref (ad 0)), (1, .int v1), (2, .int v2)] dX8_places_23 rfl (by decide) rfl ?_
    refine zz_aload_n K 1 dX8_places_24 rfl rfl ?_
    refine zg8_8 K zin_X8_places_X8 zlk_X8_places_3 dX8_places_25 ?_
    refine zz_nmi (fun x48 ex48 => ?_)
    have h := h x48 ex48
    refine zz_istore K [(4, .int x48), (3, .int x47), (0, .ref (ad 0)), (1, .int v1), (2, .int v2)] dX8_places_28 (by decide) rfl ?_
    refine zz_aload_n K 2 dX8_places_30 rfl rfl ?_
    refine zg8_13 K zin_X8_places_X8 zlk_X8_places_4 dX8_places_31 ?_
    refine zz_astore K [(5, .ref (ad 13)), (4, .int x48), (3, .int x47), (0, .ref (ad 0)), (1, .int v1), (2, .int v2)] dX8_places_34 (by decide) rfl ?_
    refine zz_iconst K dX8_places_36 zci_0 ?_
    refine zz_istore K [(6, .int (0 : Int32)), (5, .ref (ad 13)), (4, .int x48), (3, .int x47), (0, .ref (ad 0)), (1, .int v1), (2, .int v2)] dX8_places_37 (by decide) rfl ?_
    refine zz_sub [4, 5, 6, 3, 2, 1, 0] [(0, .ref (ad 0)), (1, .int v1), (2, .int v2), (3, .int x47), (4, .int x48), (5, .ref (ad 13)), (6, .int (0 : Int32))] rfl ?_
    exact zu8_places_39 K hret h
  · have h := (And.right h) c46
    refine zz_aload_n K 0 dX8_places_12 rfl rfl ?_
    refine zz_bipush K dX8_places_13 zcb_m2 ?_
    refine zz_callVi K zz_nw_nil [.int (-2 : Int32)] (zc8_no l D ad cy (-2 : Int32) σ _ h) gX8_places_X8_no rfl ⟨rfl, rfl⟩ zds_yX8_no_v ⟨Nat.le_of_ble_eq_true rfl, Nat.le_of_ble_eq_true rfl⟩ (wM_at_0 ad cy _) rfl rfl rfl rfl (Nat.le_of_ble_eq_true rfl) dX8_places_15 (fun r49 g50 h => ?_)
    exact hret _ _ rfl h _ _ dX8_places_18
set_option maxRecDepth 100000 in
theorem zc8_places (l : Launch) (D : va_G) (ad : Nat → Nat) (cy : Nat → ClassId) (v1 : Int32) (v2 : Int32) (σ : zz_St) (Qp : Int32 → zz_St → Prop) (h : zq8_places v1 v2 σ Qp) : zz_Mi l yX8_places wsX8_places zrm8_places D (tysM cy) (wM ad cy) [] [.ref (ad 0), .int v1, .int v2] σ Qp :=
  zz_Mi.of zz_nw_nil (wM_ad ad cy) (by decide +kernel) rfl ⟨rfl, rfl⟩ (Nat.le_of_ble_eq_true rfl) (fun p e s m args below meth c A QW K hret => zu8_places_0 K  hret h)
theorem zin_X8_ink_X8 : ∀ w ∈ wsX80, w ∈ wsX8_ink := fun w h => List.mem_cons_of_mem _ (List.mem_append_right _ h)
theorem zlk_X8_ink_1 : Cond.fieldLink RX8 35 "SolidsRolledModel" "ink" "I" ∈ wsX8_ink := List.mem_of_getElem? (i := 1) rfl
abbrev zrm8_ink : Room := { frames := 1, cells := 0, slots := 0, locals := 25 }
set_option maxHeartbeats 4000000 in
set_option maxRecDepth 100000 in
theorem zu8_ink_0 {p : Program} {l : Launch} {e : Env} {s : State} {m : MethodId} {args : Array Value} {below : List Frame} {meth : Method} {c : Code} {Q : State → Prop} {D : va_G} {A : Nat → Prop} {ad : Nat → Nat} {cy : Nat → ClassId} {v1 : Int32} {σ : zz_St} (K : zz_K p s m args c cX8_ink 3 RX8 wsX8_ink D (tysM cy) A (wM ad cy) []) {Qp : Int32 → zz_St → Prop} (hret : ∀ (r : Int32) (σ2 : zz_St), narrow .int (.int r) = .int r → Qp r σ2 → ∀ (pc : Nat) (lv : List (Nat × Value)), decode cX8_ink pc = .ok (.ireturn, 1) → zz_G p l e zrm8_ink s m args below meth c Q D A (wM ad cy) 3 pc lv [.int r] σ2) (h : zq8_ink v1 σ Qp) : zz_G p l e zrm8_ink s m args below meth c Q D A (wM ad cy) 3 0 [(0, .ref (ad 0)), (1, .int v1)] [] σ := by
  unfold zq8_ink at h
  refine zz_iload_n K 1 dX8_ink_0 rfl rfl ?_
  refine zz_i2l K dX8_ink_1 ?_
  refine zz_lconst K (v := (0 : Int64)) dX8_ink_2 rfl ?_
  refine zz_lconst K (v := (1 : Int64)) dX8_ink_3 rfl ?_
  refine zz_callSi1 K zz_nw_nil [.long (v1.toInt64), .long (0 : Int64), .long (1 : Int64)] (zc8_in l D ad cy (v1.toInt64) (0 : Int64) (1 : Int64) σ _ h) gX8_ink_X8_in rfl ⟨rfl, rfl⟩ zds_yX8_in_s ⟨Nat.le_of_ble_eq_true rfl, Nat.le_of_ble_eq_true rfl⟩ rfl rfl (Nat.le_of_ble_eq_true rfl) dX8_ink_4 (fun r7 h => ?_)
  refine zz_if_ne K 17 dX8_ink_7 rfl (fun c8 => ?_) (fun c8 => ?_)
  · have h := (And.left h) c8
    refine zz_aload_n K 0 dX8_ink_17 rfl rfl ?_
    refine zg8_6 K zin_X8_ink_X8 zlk_X8_ink_1 dX8_ink_18 ?_
    refine zz_nmi (fun x9 ex9 => ?_)
    have h := h x9 ex9
    refine zz_istore_n K [(2, .int x9), (0, .ref (ad 0)), (1, .int v1)] dX8_ink_21 rfl (by decide) rfl ?_
    refine zz_aload_n K 1 dX8_ink_22 rfl rfl ?_
    refine zz_iload_n K 2 dX8_ink_23 rfl rfl ?_
    refine zp8_6 K zin_X8_ink_X8 zlk_X8_ink_1 dX8_ink_24 ?_
    refine zz_nms (fun g10 eg10 => ?_)
    have h := h g10 eg10
    refine zz_iload_n K 0 dX8_ink_27 rfl rfl ?_
    exact hret _ _ rfl h _ _ dX8_ink_28
  · have h := (And.right h) c8
    refine zz_aload_n K 0 dX8_ink_10 rfl rfl ?_
    refine zz_bipush K dX8_ink_11 zcb_m2 ?_
    refine zz_callVi K zz_nw_nil [.int (-2 : Int32)] (zc8_no l D ad cy (-2 : Int32) σ _ h) gX8_ink_X8_no rfl ⟨rfl, rfl⟩ zds_yX8_no_v ⟨Nat.le_of_ble_eq_true rfl, Nat.le_of_ble_eq_true rfl⟩ (wM_at_0 ad cy _) rfl rfl rfl rfl (Nat.le_of_ble_eq_true rfl) dX8_ink_13 (fun r11 g12 h => ?_)
    exact hret _ _ rfl h _ _ dX8_ink_16
set_option maxRecDepth 100000 in
theorem zc8_ink (l : Launch) (D : va_G) (ad : Nat → Nat) (cy : Nat → ClassId) (v1 : Int32) (σ : zz_St) (Qp : Int32 → zz_St → Prop) (h : zq8_ink v1 σ Qp) : zz_Mi l yX8_ink wsX8_ink zrm8_ink D (tysM cy) (wM ad cy) [] [.ref (ad 0), .int v1] σ Qp :=
  zz_Mi.of zz_nw_nil (wM_ad ad cy) (by decide +kernel) rfl ⟨rfl, rfl⟩ (Nat.le_of_ble_eq_true rfl) (fun p e s m args below meth c A QW K hret => zu8_ink_0 K  hret h)
theorem zin_X8_printed_X8 : ∀ w ∈ wsX80, w ∈ wsX8_printed := fun w h => List.mem_cons_of_mem _ (List.mem_append_right _ h)
theorem zlk_X8_printed_1 : Cond.fieldLink RX8 32 "SolidsRolledModel" "prints" "[I" ∈ wsX8_printed := List.mem_of_getElem? (i := 1) rfl
abbrev zrm8_printed : Room := { frames := 1, cells := 0, slots := 0, locals := 20 }
set_option maxHeartbeats 4000000 in
set_option maxRecDepth 100000 in
theorem zu8_printed_27 {p : Program} {l : Launch} {e : Env} {s : State} {m : MethodId} {args : Array Value} {below : List Frame} {meth : Method} {c : Code} {Q : State → Prop} {D : va_G} {A : Nat → Prop} {ad : Nat → Nat} {cy : Nat → ClassId} {v2 : Int32} {s0 : Int32} {s1 : Int32} {σ : zz_St} (K : zz_K p s m args c cX8_printed 3 RX8 wsX8_printed D (tysM cy) A (wM ad cy) []) {Qp : Int32 → Prop} (hret : ∀ (r : Int32), narrow .int (.int r) = .int r → Qp r → ∀ (pc : Nat) (lv : List (Nat × Value)), decode cX8_printed pc = .ok (.ireturn, 1) → zz_G p l e zrm8_printed s m args below meth c Q D A (wM ad cy) 3 pc lv [.int r] σ) {B4 : Int32 → Int32 → Prop} (hB4 : ∀ (v1' : Int32) (v2' : Int32), B4 v1' v2' → zz_G p l e zrm8_printed s m args below meth c Q D A (wM ad cy) 3 4 [(0, .ref (ad 0)), (1, .int v1'), (2, .int v2')] [] σ) (h : zq8_printed_27 v2 s0 s1 σ Qp B4) : zz_G p l e zrm8_printed s m args below meth c Q D A (wM ad cy) 3 27 [(0, .ref (ad 0)), (2, .int v2)] [.int s0, .int s1] σ := by
  unfold zq8_printed_27 at h
  refine zz_iadd K dX8_printed_27 ?_
  refine zz_nmi (fun x5 ex5 => ?_)
  have h := h x5 ex5
  refine zz_istore_n K [(1, .int x5), (0, .ref (ad 0)), (2, .int v2)] dX8_printed_28 rfl (by decide) rfl ?_
  refine zz_iinc K 2 [(2, .int (v2 + (1 : Int32))), (1, .int x5), (0, .ref (ad 0))] dX8_printed_29 zci_1 rfl (by decide) rfl ?_
  refine zz_goto K 4 dX8_printed_32 rfl ?_
  refine zz_sub [2, 1, 0] [(0, .ref (ad 0)), (1, .int x5), (2, .int (v2 + (1 : Int32)))] rfl ?_
  exact hB4 x5 (v2 + (1 : Int32)) h
set_option maxHeartbeats 4000000 in
set_option maxRecDepth 100000 in
theorem zu8_printed_4 {p : Program} {l : Launch} {e : Env} {s : State} {m : MethodId} {args : Array Value} {below : List Frame} {meth : Method} {c : Code} {Q : State → Prop} {D : va_G} {A : Nat → Prop} {ad : Nat → Nat} {cy : Nat → ClassId} {v1 : Int32} {v2 : Int32} {σ : zz_St} (K : zz_K p s m args c cX8_printed 3 RX8 wsX8_printed D (tysM cy) A (wM ad cy) []) {Qp : Int32 → Prop} (hret : ∀ (r : Int32), narrow .int (.int r) = .int r → Qp r → ∀ (pc : Nat) (lv : List (Nat × Value)), decode cX8_printed pc = .ok (.ireturn, 1) → zz_G p l e zrm8_printed s m args below meth c Q D A (wM ad cy) 3 pc lv [.int r] σ) (h : zq8_printed_4 v1 v2 σ Qp) : zz_G p l e zrm8_printed s m args below meth c Q D A (wM ad cy) 3 4 [(0, .ref (ad 0)), (1, .int v1), (2, .int v2)] [] σ := by
  unfold zq8_printed_4 at h
  obtain ⟨I4, M4, h0, hs⟩ := h
  have key : ∀ (n : Nat) (v1 : Int32) (v2 : Int32), M4 v1 v2 < n → I4 v1 v2 → zz_G p l e zrm8_printed s m args below meth c Q D A (wM ad cy) 3 4 [(0, .ref (ad 0)), (1, .int v1), (2, .int v2)] [] σ := by
    intro n
    induction n with
    | zero => intro v1 v2 hlt; exact absurd hlt (Nat.not_lt_zero _)
    | succ n ih =>
      intro v1 v2 hlt hI
      have h := hs v1 v2 hI
      have hB4 : ∀ (v1' : Int32) (v2' : Int32), (fun v1' v2' => I4 v1' v2' ∧ M4 v1' v2' < M4 v1 v2) v1' v2' → zz_G p l e zrm8_printed s m args below meth c Q D A (wM ad cy) 3 4 [(0, .ref (ad 0)), (1, .int v1'), (2, .int v2')] [] σ := fun v1' v2' hz => ih v1' v2' (Nat.lt_of_lt_of_le hz.2 (Nat.le_of_lt_succ hlt)) hz.1
      refine zz_iload_n K 2 dX8_printed_4 rfl rfl ?_
      refine zz_aload_n K 0 dX8_printed_5 rfl rfl ?_
      refine zz_callVi1 K zz_nw_nil [] (zc8_tileMany l D ad cy  σ _ h) gX8_printed_X8_tileMany rfl ⟨rfl, rfl⟩ zds_yX8_tileMany_v ⟨Nat.le_of_ble_eq_true rfl, Nat.le_of_ble_eq_true rfl⟩ (wM_at_0 ad cy _) rfl rfl rfl rfl (Nat.le_of_ble_eq_true rfl) dX8_printed_6 (fun r6 h => ?_)
      refine zz_icmp_ge K 35 dX8_printed_9 rfl (fun c7 => ?_) (fun c7 => ?_)
      · have h := (And.left h) c7
        refine zz_iload_n K 1 dX8_printed_35 rfl rfl ?_
        exact hret _ rfl h _ _ dX8_printed_36
      · have h := (And.right h) c7
        refine zz_iload_n K 1 dX8_printed_12 rfl rfl ?_
        refine zz_aload_n K 0 dX8_printed_13 rfl rfl ?_
        refine zg8_5 K zin_X8_printed_X8 zlk_X8_printed_1 dX8_printed_14 ?_
        refine zz_iload_n K 2 dX8_printed_17 rfl rfl ?_
        obtain ⟨hin, h⟩ := h
        refine zz_iaload K 0 (wM_at_5 ad cy σ) rfl hin dX8_printed_18 ?_
        refine zz_if_lt K 26 dX8_printed_19 rfl (fun c8 => ?_) (fun c8 => ?_)
        · have h := (And.left h) c8
          refine zz_iconst K dX8_printed_26 zci_0 ?_
          refine zz_sub [0, 2] [(0, .ref (ad 0)), (2, .int v2)] rfl ?_
          exact zu8_printed_27 K hret hB4 h
        · have h := (And.right h) c8
          refine zz_iconst K dX8_printed_22 zci_1 ?_
          refine zz_goto K 27 dX8_printed_23 rfl ?_
          refine zz_sub [0, 2] [(0, .ref (ad 0)), (2, .int v2)] rfl ?_
          exact zu8_printed_27 K hret hB4 h
  exact key _ v1 v2 (Nat.lt_succ_self _) h0
set_option maxHeartbeats 4000000 in
set_option maxRecDepth 100000 in
theorem zu8_printed_0 {p : Program} {l : Launch} {e : Env} {s : State} {m : MethodId} {args : Array Value} {below : List Frame} {meth : Method} {c : Code} {Q : State → Prop} {D : va_G} {A : Nat → Prop} {ad : Nat → Nat} {cy : Nat → ClassId}  {σ : zz_St} (K : zz_K p s m args c cX8_printed 3 RX8 wsX8_printed D (tysM cy) A (wM ad cy) []) {Qp : Int32 → Prop} (hret : ∀ (r : Int32), narrow .int (.int r) = .int r → Qp r → ∀ (pc : Nat) (lv : List (Nat × Value)), decode cX8_printed pc = .ok (.ireturn, 1) → zz_G p l e zrm8_printed s m args below meth c Q D A (wM ad cy) 3 pc lv [.int r] σ) (h : zq8_printed σ Qp) : zz_G p l e zrm8_printed s m args below meth c Q D A (wM ad cy) 3 0 [(0, .ref (ad 0))] [] σ := by
  unfold zq8_printed at h
  refine zz_iconst K dX8_printed_0 zci_0 ?_
  refine zz_istore_n K [(1, .int (0 : Int32)), (0, .ref (ad 0))] dX8_printed_1 rfl (by decide) rfl ?_
  refine zz_iconst K dX8_printed_2 zci_0 ?_
  refine zz_istore_n K [(2, .int (0 : Int32)), (1, .int (0 : Int32)), (0, .ref (ad 0))] dX8_printed_3 rfl (by decide) rfl ?_
  refine zz_sub [2, 1, 0] [(0, .ref (ad 0)), (1, .int (0 : Int32)), (2, .int (0 : Int32))] rfl ?_
  exact zu8_printed_4 K hret h
set_option maxRecDepth 100000 in
theorem zc8_printed (l : Launch) (D : va_G) (ad : Nat → Nat) (cy : Nat → ClassId)  (σ : zz_St) (Qp : Int32 → Prop) (h : zq8_printed σ Qp) : zz_Mi l yX8_printed wsX8_printed zrm8_printed D (tysM cy) (wM ad cy) [] [.ref (ad 0)] σ (fun r σ2 => σ2 = σ ∧ Qp r) :=
  zz_Mi.of zz_nw_nil (wM_ad ad cy) (by decide +kernel) rfl ⟨rfl, rfl⟩ (Nat.le_of_ble_eq_true rfl) (fun p e s m args below meth c A QW K hret => zu8_printed_0 K  (fun r hn hq pc lv hd => hret r σ hn ⟨rfl, hq⟩ pc lv hd) h)
theorem zin_X8_wipes_X8 : ∀ w ∈ wsX80, w ∈ wsX8_wipes := fun w h => List.mem_cons_of_mem _ (List.mem_append_right _ h)
theorem zlk_X8_wipes_1 : Cond.fieldLink RX8 32 "SolidsRolledModel" "prints" "[I" ∈ wsX8_wipes := List.mem_of_getElem? (i := 1) rfl
theorem zds_yX8_printed_v : yX8_printed.cls = RX8 ∧ yX8_printed.cls ≠ "java/lang/invoke/MethodHandle" ∧ yX8_printed.cls ≠ "java/lang/invoke/VarHandle" ∧ (parseMethodDescriptor yX8_printed.desc).map (fun d => d.parameters.length) = some 0 := by decide +kernel
abbrev zrm8_wipes : Room := { frames := 2, cells := 0, slots := 0, locals := 42 }
set_option maxHeartbeats 4000000 in
set_option maxRecDepth 100000 in
theorem zu8_wipes_7 {p : Program} {l : Launch} {e : Env} {s : State} {m : MethodId} {args : Array Value} {below : List Frame} {meth : Method} {c : Code} {Q : State → Prop} {D : va_G} {A : Nat → Prop} {ad : Nat → Nat} {cy : Nat → ClassId} {v1 : Int32} {v2 : Int32} {σ : zz_St} (K : zz_K p s m args c cX8_wipes 3 RX8 wsX8_wipes D (tysM cy) A (wM ad cy) []) {Qp : Int32 → zz_St → Prop} (hret : ∀ (r : Int32) (σ2 : zz_St), narrow .int (.int r) = .int r → Qp r σ2 → ∀ (pc : Nat) (lv : List (Nat × Value)), decode cX8_wipes pc = .ok (.ireturn, 1) → zz_G p l e zrm8_wipes s m args below meth c Q D A (wM ad cy) 3 pc lv [.int r] σ2) (h : zq8_wipes_7 v1 v2 σ Qp) : zz_G p l e zrm8_wipes s m args below meth c Q D A (wM ad cy) 3 7 [(0, .ref (ad 0)), (1, .int v1), (2, .int v2)] [] σ := by
  unfold zq8_wipes_7 at h
  obtain ⟨I7, M7, h0, hs⟩ := h
  have key : ∀ (n : Nat) (v2 : Int32) (σ : zz_St), M7 v2 σ < n → I7 v2 σ → zz_G p l e zrm8_wipes s m args below meth c Q D A (wM ad cy) 3 7 [(0, .ref (ad 0)), (1, .int v1), (2, .int v2)] [] σ := by
    intro n
    induction n with
    | zero => intro v2 σ hlt; exact absurd hlt (Nat.not_lt_zero _)
    | succ n ih =>
      intro v2 σ hlt hI
      have h := hs v2 σ hI
      have hB7 : ∀ (v2' : Int32) (σ' : zz_St), (fun v2' σ' => I7 v2' σ' ∧ M7 v2' σ' < M7 v2 σ) v2' σ' → zz_G p l e zrm8_wipes s m args below meth c Q D A (wM ad cy) 3 7 [(0, .ref (ad 0)), (1, .int v1), (2, .int v2')] [] σ' := fun v2' σ' hz => ih v2' σ' (Nat.lt_of_lt_of_le hz.2 (Nat.le_of_lt_succ hlt)) hz.1
      refine zz_iload_n K 2 dX8_wipes_7 rfl rfl ?_
      refine zz_bipush K dX8_wipes_8 zcb_36 ?_
      refine zz_icmp_ge K 26 dX8_wipes_10 rfl (fun c4 => ?_) (fun c4 => ?_)
      · have h := (And.left h) c4
        refine zz_iload_n K 1 dX8_wipes_26 rfl rfl ?_
        exact hret _ _ rfl h _ _ dX8_wipes_27
      · have h := (And.right h) c4
        refine zz_aload_n K 0 dX8_wipes_13 rfl rfl ?_
        refine zg8_5 K zin_X8_wipes_X8 zlk_X8_wipes_1 dX8_wipes_14 ?_
        refine zz_iload_n K 2 dX8_wipes_17 rfl rfl ?_
        refine zz_iconst K dX8_wipes_18 zci_m1 ?_
        obtain ⟨hin, h⟩ := h
        refine zz_iastore K 0 (σ2 := zz_A σ 5 (upd ((σ).2.1 5) v2.toNatClampNeg (-1 : Int32))) (wM_at_5 ad cy σ) (wM_set_5 ad cy σ _) rfl hin dX8_wipes_19 ?_
        refine zz_nms (fun g5 eg5 => ?_)
        have h := h g5 eg5
        refine zz_iinc K 2 [(2, .int (v2 + (1 : Int32))), (0, .ref (ad 0)), (1, .int v1)] dX8_wipes_20 zci_1 rfl (by decide) rfl ?_
        refine zz_goto K 7 dX8_wipes_23 rfl ?_
        refine zz_sub [1, 2, 0] [(0, .ref (ad 0)), (1, .int v1), (2, .int (v2 + (1 : Int32)))] rfl ?_
        exact hB7 (v2 + (1 : Int32)) g5 h
  exact key _ v2 σ (Nat.lt_succ_self _) h0
set_option maxHeartbeats 4000000 in
set_option maxRecDepth 100000 in
theorem zu8_wipes_0 {p : Program} {l : Launch} {e : Env} {s : State} {m : MethodId} {args : Array Value} {below : List Frame} {meth : Method} {c : Code} {Q : State → Prop} {D : va_G} {A : Nat → Prop} {ad : Nat → Nat} {cy : Nat → ClassId}  {σ : zz_St} (K : zz_K p s m args c cX8_wipes 3 RX8 wsX8_wipes D (tysM cy) A (wM ad cy) []) {Qp : Int32 → zz_St → Prop} (hret : ∀ (r : Int32) (σ2 : zz_St), narrow .int (.int r) = .int r → Qp r σ2 → ∀ (pc : Nat) (lv : List (Nat × Value)), decode cX8_wipes pc = .ok (.ireturn, 1) → zz_G p l e zrm8_wipes s m args below meth c Q D A (wM ad cy) 3 pc lv [.int r] σ2) (h : zq8_wipes σ Qp) : zz_G p l e zrm8_wipes s m args below meth c Q D A (wM ad cy) 3 0 [(0, .ref (ad 0))] [] σ := by
  unfold zq8_wipes at h
  refine zz_aload_n K 0 dX8_wipes_0 rfl rfl ?_
  refine zz_callVi1 K zz_nw_nil [] (zc8_printed l D ad cy  σ _ h) gX8_wipes_X8_printed rfl ⟨rfl, rfl⟩ zds_yX8_printed_v ⟨Nat.le_of_ble_eq_true rfl, Nat.le_of_ble_eq_true rfl⟩ (wM_at_0 ad cy _) rfl rfl rfl rfl (Nat.le_of_ble_eq_true rfl) dX8_wipes_1 (fun r6 h => ?_)
  refine zz_istore_n K [(1, .int r6), (0, .ref (ad 0))] dX8_wipes_4 rfl (by decide) rfl ?_
  refine zz_iconst K dX8_wipes_5 zci_0 ?_
  refine zz_istore_n K [(2, .int (0 : Int32)), (1, .int r6), (0, .ref (ad 0))] dX8_wipes_6 rfl (by decide) rfl ?_
  refine zz_sub [2, 1, 0] [(0, .ref (ad 0)), (1, .int r6), (2, .int (0 : Int32))] rfl ?_
  exact zu8_wipes_7 K hret h
set_option maxRecDepth 100000 in
theorem zc8_wipes (l : Launch) (D : va_G) (ad : Nat → Nat) (cy : Nat → ClassId)  (σ : zz_St) (Qp : Int32 → zz_St → Prop) (h : zq8_wipes σ Qp) : zz_Mi l yX8_wipes wsX8_wipes zrm8_wipes D (tysM cy) (wM ad cy) [] [.ref (ad 0)] σ Qp :=
  zz_Mi.of zz_nw_nil (wM_ad ad cy) (by decide +kernel) rfl ⟨rfl, rfl⟩ (Nat.le_of_ble_eq_true rfl) (fun p e s m args below meth c A QW K hret => zu8_wipes_0 K  hret h)
theorem zin_X8_whereFace_X8 : ∀ w ∈ wsX80, w ∈ wsX8_whereFace := fun w h => List.mem_cons_of_mem _ (List.mem_append_right _ h)
theorem zlk_X8_whereFace_1 : Cond.fieldLink RX8 42 "SolidsRolledModel" "faces" "[I" ∈ wsX8_whereFace := List.mem_of_getElem? (i := 1) rfl
abbrev zrm8_whereFace : Room := { frames := 0, cells := 0, slots := 0, locals := 0 }
set_option maxHeartbeats 4000000 in
set_option maxRecDepth 100000 in
theorem zu8_whereFace_2 {p : Program} {l : Launch} {e : Env} {s : State} {m : MethodId} {args : Array Value} {below : List Frame} {meth : Method} {c : Code} {Q : State → Prop} {D : va_G} {A : Nat → Prop} {ad : Nat → Nat} {cy : Nat → ClassId} {v1 : Int32} {v2 : Int32} {σ : zz_St} (K : zz_K p s m args c cX8_whereFace 3 RX8 wsX8_whereFace D (tysM cy) A (wM ad cy) []) {Qp : Int32 → Prop} (hret : ∀ (r : Int32), narrow .int (.int r) = .int r → Qp r → ∀ (pc : Nat) (lv : List (Nat × Value)), decode cX8_whereFace pc = .ok (.ireturn, 1) → zz_G p l e zrm8_whereFace s m args below meth c Q D A (wM ad cy) 3 pc lv [.int r] σ) (h : zq8_whereFace_2 v1 v2 σ Qp) : zz_G p l e zrm8_whereFace s m args below meth c Q D A (wM ad cy) 3 2 [(0, .ref (ad 0)), (1, .int v1), (2, .int v2)] [] σ := by
  unfold zq8_whereFace_2 at h
  obtain ⟨I2, M2, h0, hs⟩ := h
  have key : ∀ (n : Nat) (v2 : Int32), M2 v2 < n → I2 v2 → zz_G p l e zrm8_whereFace s m args below meth c Q D A (wM ad cy) 3 2 [(0, .ref (ad 0)), (1, .int v1), (2, .int v2)] [] σ := by
    intro n
    induction n with
    | zero => intro v2 hlt; exact absurd hlt (Nat.not_lt_zero _)
    | succ n ih =>
      intro v2 hlt hI
      have h := hs v2 hI
      have hB2 : ∀ (v2' : Int32), (fun v2' => I2 v2' ∧ M2 v2' < M2 v2) v2' → zz_G p l e zrm8_whereFace s m args below meth c Q D A (wM ad cy) 3 2 [(0, .ref (ad 0)), (1, .int v1), (2, .int v2')] [] σ := fun v2' hz => ih v2' (Nat.lt_of_lt_of_le hz.2 (Nat.le_of_lt_succ hlt)) hz.1
      refine zz_aload_n K 0 dX8_whereFace_2 rfl rfl ?_
      refine zg8_10 K zin_X8_whereFace_X8 zlk_X8_whereFace_1 dX8_whereFace_3 ?_
      refine zz_iload_n K 2 dX8_whereFace_6 rfl rfl ?_
      obtain ⟨hin, h⟩ := h
      refine zz_iaload K 0 (wM_at_10 ad cy σ) rfl hin dX8_whereFace_7 ?_
      refine zz_iload_n K 1 dX8_whereFace_8 rfl rfl ?_
      refine zz_icmp_eq K 18 dX8_whereFace_9 rfl (fun c2 => ?_) (fun c2 => ?_)
      · have h := (And.left h) c2
        refine zz_iload_n K 2 dX8_whereFace_18 rfl rfl ?_
        exact hret _ rfl h _ _ dX8_whereFace_19
      · have h := (And.right h) c2
        refine zz_iinc K 2 [(2, .int (v2 + (1 : Int32))), (0, .ref (ad 0)), (1, .int v1)] dX8_whereFace_12 zci_1 rfl (by decide) rfl ?_
        refine zz_goto K 2 dX8_whereFace_15 rfl ?_
        refine zz_sub [1, 2, 0] [(0, .ref (ad 0)), (1, .int v1), (2, .int (v2 + (1 : Int32)))] rfl ?_
        exact hB2 (v2 + (1 : Int32)) h
  exact key _ v2 (Nat.lt_succ_self _) h0
set_option maxHeartbeats 4000000 in
set_option maxRecDepth 100000 in
theorem zu8_whereFace_0 {p : Program} {l : Launch} {e : Env} {s : State} {m : MethodId} {args : Array Value} {below : List Frame} {meth : Method} {c : Code} {Q : State → Prop} {D : va_G} {A : Nat → Prop} {ad : Nat → Nat} {cy : Nat → ClassId} {v1 : Int32} {σ : zz_St} (K : zz_K p s m args c cX8_whereFace 3 RX8 wsX8_whereFace D (tysM cy) A (wM ad cy) []) {Qp : Int32 → Prop} (hret : ∀ (r : Int32), narrow .int (.int r) = .int r → Qp r → ∀ (pc : Nat) (lv : List (Nat × Value)), decode cX8_whereFace pc = .ok (.ireturn, 1) → zz_G p l e zrm8_whereFace s m args below meth c Q D A (wM ad cy) 3 pc lv [.int r] σ) (h : zq8_whereFace v1 σ Qp) : zz_G p l e zrm8_whereFace s m args below meth c Q D A (wM ad cy) 3 0 [(0, .ref (ad 0)), (1, .int v1)] [] σ := by
  unfold zq8_whereFace at h
  refine zz_iconst K dX8_whereFace_0 zci_0 ?_
  refine zz_istore_n K [(2, .int (0 : Int32)), (0, .ref (ad 0)), (1, .int v1)] dX8_whereFace_1 rfl (by decide) rfl ?_
  refine zz_sub [1, 2, 0] [(0, .ref (ad 0)), (1, .int v1), (2, .int (0 : Int32))] rfl ?_
  exact zu8_whereFace_2 K hret h
set_option maxRecDepth 100000 in
theorem zc8_whereFace (l : Launch) (D : va_G) (ad : Nat → Nat) (cy : Nat → ClassId) (v1 : Int32) (σ : zz_St) (Qp : Int32 → Prop) (h : zq8_whereFace v1 σ Qp) : zz_Mi l yX8_whereFace wsX8_whereFace zrm8_whereFace D (tysM cy) (wM ad cy) [] [.ref (ad 0), .int v1] σ (fun r σ2 => σ2 = σ ∧ Qp r) :=
  zz_Mi.of zz_nw_nil (wM_ad ad cy) (by decide +kernel) rfl ⟨rfl, rfl⟩ (Nat.le_of_ble_eq_true rfl) (fun p e s m args below meth c A QW K hret => zu8_whereFace_0 K  (fun r hn hq pc lv hd => hret r σ hn ⟨rfl, hq⟩ pc lv hd) h)
theorem zlk_X8_solid_1 : Cond.constantLong RX8 142 (5) ∈ wsX8_solid := List.mem_of_getElem? (i := 1) rfl
theorem zlk_X8_solid_2 : Cond.constantLong RX8 215 (10) ∈ wsX8_solid := List.mem_of_getElem? (i := 2) rfl
theorem zlk_X8_solid_4 : Cond.constantLong RX8 219 (15) ∈ wsX8_solid := List.mem_of_getElem? (i := 4) rfl
theorem zlk_X8_solid_3 : Cond.constantLong RX8 217 (13) ∈ wsX8_solid := List.mem_of_getElem? (i := 3) rfl
theorem zin_X8_solid_X8 : ∀ w ∈ wsX80, w ∈ wsX8_solid := fun w h => List.mem_cons_of_mem _ (List.mem_append_right _ h)
theorem zlk_X8_solid_5 : Cond.fieldLink RX8 38 "SolidsRolledModel" "isThere" "Z" ∈ wsX8_solid := List.mem_of_getElem? (i := 5) rfl
theorem zlk_X8_solid_6 : Cond.fieldLink RX8 133 "SolidsRolledModel" "kind" "I" ∈ wsX8_solid := List.mem_of_getElem? (i := 6) rfl
theorem zlk_X8_solid_7 : Cond.fieldLink RX8 147 "SolidsRolledModel" "place" "I" ∈ wsX8_solid := List.mem_of_getElem? (i := 7) rfl
theorem zlk_X8_solid_8 : Cond.fieldLink RX8 144 "SolidsRolledModel" "underMany" "I" ∈ wsX8_solid := List.mem_of_getElem? (i := 8) rfl
theorem zlk_X8_solid_9 : Cond.fieldLink RX8 26 "SolidsRolledModel" "columns" "I" ∈ wsX8_solid := List.mem_of_getElem? (i := 9) rfl
theorem zcb_10 : (Int8.ofInt (10)).toInt32 = (10 : Int32) := by decide
theorem zds_yX8_below_v : yX8_below.cls = RX8 ∧ yX8_below.cls ≠ "java/lang/invoke/MethodHandle" ∧ yX8_below.cls ≠ "java/lang/invoke/VarHandle" ∧ (parseMethodDescriptor yX8_below.desc).map (fun d => d.parameters.length) = some 0 := by decide +kernel
theorem zds_yX8_whereFace_v : yX8_whereFace.cls = RX8 ∧ yX8_whereFace.cls ≠ "java/lang/invoke/MethodHandle" ∧ yX8_whereFace.cls ≠ "java/lang/invoke/VarHandle" ∧ (parseMethodDescriptor yX8_whereFace.desc).map (fun d => d.parameters.length) = some 1 := by decide +kernel
abbrev zrm8_solid : Room := { frames := 3, cells := 0, slots := 0, locals := 67 }
set_option maxHeartbeats 4000000 in
set_option maxRecDepth 100000 in
theorem zu8_solid_46 {p : Program} {l : Launch} {e : Env} {s : State} {m : MethodId} {args : Array Value} {below : List Frame} {meth : Method} {c : Code} {Q : State → Prop} {D : va_G} {A : Nat → Prop} {ad : Nat → Nat} {cy : Nat → ClassId} {v1 : Int32} {σ : zz_St} (K : zz_K p s m args c cX8_solid 3 RX8 wsX8_solid D (tysM cy) A (wM ad cy) []) {Qp : Int32 → zz_St → Prop} (hret : ∀ (r : Int32) (σ2 : zz_St), narrow .int (.int r) = .int r → Qp r σ2 → ∀ (pc : Nat) (lv : List (Nat × Value)), decode cX8_solid pc = .ok (.ireturn, 1) → zz_G p l e zrm8_solid s m args below meth c Q D A (wM ad cy) 3 pc lv [.int r] σ2) (h : zq8_solid_46 v1 σ Qp) : zz_G p l e zrm8_solid s m args below meth c Q D A (wM ad cy) 3 46 [(0, .ref (ad 0)), (1, .int v1)] [] σ := by
  unfold zq8_solid_46 at h
  refine zz_aload_n K 0 dX8_solid_46 rfl rfl ?_
  refine zg8_9 K zin_X8_solid_X8 zlk_X8_solid_5 dX8_solid_47 ?_
  refine zz_if_ne K 60 dX8_solid_50 rfl (fun c23 => ?_) (fun c23 => ?_)
  · have h := (And.left h) c23
    refine zz_aload_n K 0 dX8_solid_60 rfl rfl ?_
    refine zz_callVi K zz_nw_nil [] (zc8_tellsUnder l D ad cy  σ _ h) gX8_solid_X8_tellsUnder rfl ⟨rfl, rfl⟩ zds_yX8_tellsUnder_v ⟨Nat.le_of_ble_eq_true rfl, Nat.le_of_ble_eq_true rfl⟩ (wM_at_0 ad cy _) rfl rfl rfl rfl (Nat.le_of_ble_eq_true rfl) dX8_solid_61 (fun r24 g25 h => ?_)
    refine zz_istore_n K [(2, .int r24), (0, .ref (ad 0)), (1, .int v1)] dX8_solid_64 rfl (by decide) rfl ?_
    refine zz_iload_n K 2 dX8_solid_65 rfl rfl ?_
    by_cases c35 : v1 = (0 : Int32)
    · have h := (And.left h) c35
      refine zz_tin K (0) 104 dX8_solid_66 (by rw [c35]; decide) (by decide) (by decide) rfl rfl ?_
      refine zz_aload_n K 1 dX8_solid_104 rfl rfl ?_
      refine zg8_7 K zin_X8_solid_X8 zlk_X8_solid_6 dX8_solid_105 ?_
      exact hret _ _ rfl h _ _ dX8_solid_108
    have h := (And.right h) c35
    by_cases c36 : v1 = (1 : Int32)
    · have h := (And.left h) c36
      refine zz_tin K (1) 109 dX8_solid_66 (by rw [c36]; decide) (by decide) (by decide) rfl rfl ?_
      refine zz_aload_n K 1 dX8_solid_109 rfl rfl ?_
      refine zg8_8 K zin_X8_solid_X8 zlk_X8_solid_7 dX8_solid_110 ?_
      exact hret _ _ rfl h _ _ dX8_solid_113
    have h := (And.right h) c36
    by_cases c37 : v1 = (2 : Int32)
    · have h := (And.left h) c37
      refine zz_tin K (2) 114 dX8_solid_66 (by rw [c37]; decide) (by decide) (by decide) rfl rfl ?_
      refine zz_aload_n K 1 dX8_solid_114 rfl rfl ?_
      refine zz_callVi1 K zz_nw_nil [] (zc8_below l D ad cy  g25 _ h) gX8_solid_X8_below rfl ⟨rfl, rfl⟩ zds_yX8_below_v ⟨Nat.le_of_ble_eq_true rfl, Nat.le_of_ble_eq_true rfl⟩ (wM_at_0 ad cy _) rfl rfl rfl rfl (Nat.le_of_ble_eq_true rfl) dX8_solid_115 (fun r26 h => ?_)
      exact hret _ _ rfl h _ _ dX8_solid_118
    have h := (And.right h) c37
    by_cases c38 : v1 = (3 : Int32)
    · have h := (And.left h) c38
      refine zz_tin K (3) 119 dX8_solid_66 (by rw [c38]; decide) (by decide) (by decide) rfl rfl ?_
      refine zz_aload_n K 1 dX8_solid_119 rfl rfl ?_
      refine zg8_12 K zin_X8_solid_X8 zlk_X8_solid_8 dX8_solid_120 ?_
      exact hret _ _ rfl h _ _ dX8_solid_123
    have h := (And.right h) c38
    by_cases c39 : v1 = (4 : Int32)
    · have h := (And.left h) c39
      refine zz_tin K (4) 124 dX8_solid_66 (by rw [c39]; decide) (by decide) (by decide) rfl rfl ?_
      refine zz_aload_n K 1 dX8_solid_124 rfl rfl ?_
      refine zz_callVi1 K zz_nw_nil [] (zc8_isBlock l D ad cy  g25 _ h) gX8_solid_X8_isBlock rfl ⟨rfl, rfl⟩ zds_yX8_isBlock_v ⟨Nat.le_of_ble_eq_true rfl, Nat.le_of_ble_eq_true rfl⟩ (wM_at_0 ad cy _) rfl rfl rfl rfl (Nat.le_of_ble_eq_true rfl) dX8_solid_125 (fun r27 h => ?_)
      refine zz_if_eq K 142 dX8_solid_128 rfl (fun c28 => ?_) (fun c28 => ?_)
      · have h := (And.left h) c28
        refine zz_iconst K dX8_solid_142 zci_0 ?_
        exact hret _ _ rfl h _ _ dX8_solid_143
      · have h := (And.right h) c28
        refine zz_aload_n K 1 dX8_solid_131 rfl rfl ?_
        refine zz_callVi1 K zz_nw_nil [] (zc8_lying l D ad cy  g25 _ h) gX8_solid_X8_lying rfl ⟨rfl, rfl⟩ zds_yX8_lying_v ⟨Nat.le_of_ble_eq_true rfl, Nat.le_of_ble_eq_true rfl⟩ (wM_at_0 ad cy _) rfl rfl rfl rfl (Nat.le_of_ble_eq_true rfl) dX8_solid_132 (fun r29 h => ?_)
        refine zz_if_ne K 142 dX8_solid_135 rfl (fun c30 => ?_) (fun c30 => ?_)
        · have h := (And.left h) c30
          refine zz_iconst K dX8_solid_142 zci_0 ?_
          exact hret _ _ rfl h _ _ dX8_solid_143
        · have h := (And.right h) c30
          refine zz_iconst K dX8_solid_138 zci_1 ?_
          refine zz_goto K 143 dX8_solid_139 rfl ?_
          exact hret _ _ rfl h _ _ dX8_solid_143
    have h := (And.right h) c39
    by_cases c40 : v1 = (5 : Int32)
    · have h := (And.left h) c40
      refine zz_tin K (5) 144 dX8_solid_66 (by rw [c40]; decide) (by decide) (by decide) rfl rfl ?_
      refine zz_aload_n K 1 dX8_solid_144 rfl rfl ?_
      refine zz_callVi1 K zz_nw_nil [] (zc8_isTetra l D ad cy  g25 _ h) gX8_solid_X8_isTetra rfl ⟨rfl, rfl⟩ zds_yX8_isTetra_v ⟨Nat.le_of_ble_eq_true rfl, Nat.le_of_ble_eq_true rfl⟩ (wM_at_0 ad cy _) rfl rfl rfl rfl (Nat.le_of_ble_eq_true rfl) dX8_solid_145 (fun r31 h => ?_)
      refine zz_if_eq K 183 dX8_solid_148 rfl (fun c32 => ?_) (fun c32 => ?_)
      · have h := (And.left h) c32
        refine zz_iconst K dX8_solid_183 zci_0 ?_
        exact hret _ _ rfl h _ _ dX8_solid_184
      · have h := (And.right h) c32
        refine zz_aload_n K 1 dX8_solid_151 rfl rfl ?_
        refine zg8_8 K zin_X8_solid_X8 zlk_X8_solid_7 dX8_solid_152 ?_
        refine zz_iconst K dX8_solid_155 zci_2 ?_
        refine zz_aload_n K 1 dX8_solid_156 rfl rfl ?_
        refine zg8_3 K zin_X8_solid_X8 zlk_X8_solid_9 dX8_solid_157 ?_
        refine zz_imul K dX8_solid_160 ?_
        obtain ⟨hne, h⟩ := h
        refine zz_idiv K hne dX8_solid_161 ?_
        refine zz_aload_n K 1 dX8_solid_162 rfl rfl ?_
        refine zg8_8 K zin_X8_solid_X8 zlk_X8_solid_7 dX8_solid_163 ?_
        refine zz_iconst K dX8_solid_166 zci_2 ?_
        refine zz_aload_n K 1 dX8_solid_167 rfl rfl ?_
        refine zg8_3 K zin_X8_solid_X8 zlk_X8_solid_9 dX8_solid_168 ?_
        refine zz_imul K dX8_solid_171 ?_
        obtain ⟨hne, h⟩ := h
        refine zz_irem K hne dX8_solid_172 ?_
        refine zz_iadd K dX8_solid_173 ?_
        refine zz_iconst K dX8_solid_174 zci_2 ?_
        refine zz_irem K (by decide : ¬ (2 : Int32) = 0) dX8_solid_175 ?_
        refine zz_if_ne K 183 dX8_solid_176 rfl (fun c33 => ?_) (fun c33 => ?_)
        · have h := (And.left h) c33
          refine zz_iconst K dX8_solid_183 zci_0 ?_
          exact hret _ _ rfl h _ _ dX8_solid_184
        · have h := (And.right h) c33
          refine zz_iconst K dX8_solid_179 zci_1 ?_
          refine zz_goto K 184 dX8_solid_180 rfl ?_
          exact hret _ _ rfl h _ _ dX8_solid_184
    have h := (And.right h) c40
    refine zz_tout K 185 dX8_solid_66 (zz_tsw v1 (0) (5) (fun z h1 h2 => by
      have hz : z = 0 ∨ z = 1 ∨ z = 2 ∨ z = 3 ∨ z = 4 ∨ z = 5 := by omega
      rcases hz with rfl | rfl | rfl | rfl | rfl | rfl <;> intro q
      · exact c35 (Int32.toInt_inj.mp (q.trans (by decide)))
      · exact c36 (Int32.toInt_inj.mp (q.trans (by decide)))
      · exact c37 (Int32.toInt_inj.mp (q.trans (by decide)))
      · exact c38 (Int32.toInt_inj.mp (q.trans (by decide)))
      · exact c39 (Int32.toInt_inj.mp (q.trans (by decide)))
      · exact c40 (Int32.toInt_inj.mp (q.trans (by decide))))) rfl ?_
    refine zz_aload_n K 1 dX8_solid_185 rfl rfl ?_
    refine zz_iload_n K 2 dX8_solid_186 rfl rfl ?_
    refine zz_bipush K dX8_solid_187 zcb_10 ?_
    refine zz_isub K dX8_solid_189 ?_
    refine zz_callVi1 K zz_nw_nil [.int (v1 - (10 : Int32))] (zc8_whereFace l D ad cy (v1 - (10 : Int32)) g25 _ h) gX8_solid_X8_whereFace rfl ⟨rfl, rfl⟩ zds_yX8_whereFace_v ⟨Nat.le_of_ble_eq_true rfl, Nat.le_of_ble_eq_true rfl⟩ (wM_at_0 ad cy _) rfl rfl rfl rfl (Nat.le_of_ble_eq_true rfl) dX8_solid_190 (fun r34 h => ?_)
    exact hret _ _ rfl h _ _ dX8_solid_193
  · have h := (And.right h) c23
    refine zz_aload_n K 0 dX8_solid_53 rfl rfl ?_
    refine zz_bipush K dX8_solid_54 zcb_m3 ?_
    refine zz_callVi K zz_nw_nil [.int (-3 : Int32)] (zc8_no l D ad cy (-3 : Int32) σ _ h) gX8_solid_X8_no rfl ⟨rfl, rfl⟩ zds_yX8_no_v ⟨Nat.le_of_ble_eq_true rfl, Nat.le_of_ble_eq_true rfl⟩ (wM_at_0 ad cy _) rfl rfl rfl rfl (Nat.le_of_ble_eq_true rfl) dX8_solid_56 (fun r41 g42 h => ?_)
    exact hret _ _ rfl h _ _ dX8_solid_59
set_option maxHeartbeats 4000000 in
set_option maxRecDepth 100000 in
theorem zu8_solid_33 {p : Program} {l : Launch} {e : Env} {s : State} {m : MethodId} {args : Array Value} {below : List Frame} {meth : Method} {c : Code} {Q : State → Prop} {D : va_G} {A : Nat → Prop} {ad : Nat → Nat} {cy : Nat → ClassId} {v1 : Int32} {s0 : Int64} {s1 : Int64} {s2 : Int64} {σ : zz_St} (K : zz_K p s m args c cX8_solid 3 RX8 wsX8_solid D (tysM cy) A (wM ad cy) []) {Qp : Int32 → zz_St → Prop} (hret : ∀ (r : Int32) (σ2 : zz_St), narrow .int (.int r) = .int r → Qp r σ2 → ∀ (pc : Nat) (lv : List (Nat × Value)), decode cX8_solid pc = .ok (.ireturn, 1) → zz_G p l e zrm8_solid s m args below meth c Q D A (wM ad cy) 3 pc lv [.int r] σ2) (h : zq8_solid_33 v1 s0 s1 s2 σ Qp) : zz_G p l e zrm8_solid s m args below meth c Q D A (wM ad cy) 3 33 [(0, .ref (ad 0)), (1, .int v1)] [.long s0, .long s1, .long s2] σ := by
  unfold zq8_solid_33 at h
  refine zz_callSi1 K zz_nw_nil [.long s2, .long s1, .long s0] (zc8_in l D ad cy s2 s1 s0 σ _ h) gX8_solid_X8_in rfl ⟨rfl, rfl⟩ zds_yX8_in_s ⟨Nat.le_of_ble_eq_true rfl, Nat.le_of_ble_eq_true rfl⟩ rfl rfl (Nat.le_of_ble_eq_true rfl) dX8_solid_33 (fun r43 h => ?_)
  refine zz_if_ne K 46 dX8_solid_36 rfl (fun c44 => ?_) (fun c44 => ?_)
  · have h := (And.left h) c44
    exact zu8_solid_46 K hret h
  · have h := (And.right h) c44
    refine zz_aload_n K 0 dX8_solid_39 rfl rfl ?_
    refine zz_bipush K dX8_solid_40 zcb_m2 ?_
    refine zz_callVi K zz_nw_nil [.int (-2 : Int32)] (zc8_no l D ad cy (-2 : Int32) σ _ h) gX8_solid_X8_no rfl ⟨rfl, rfl⟩ zds_yX8_no_v ⟨Nat.le_of_ble_eq_true rfl, Nat.le_of_ble_eq_true rfl⟩ (wM_at_0 ad cy _) rfl rfl rfl rfl (Nat.le_of_ble_eq_true rfl) dX8_solid_42 (fun r45 g46 h => ?_)
    exact hret _ _ rfl h _ _ dX8_solid_45
set_option maxHeartbeats 4000000 in
set_option maxRecDepth 100000 in
theorem zu8_solid_0 {p : Program} {l : Launch} {e : Env} {s : State} {m : MethodId} {args : Array Value} {below : List Frame} {meth : Method} {c : Code} {Q : State → Prop} {D : va_G} {A : Nat → Prop} {ad : Nat → Nat} {cy : Nat → ClassId} {v1 : Int32} {σ : zz_St} (K : zz_K p s m args c cX8_solid 3 RX8 wsX8_solid D (tysM cy) A (wM ad cy) []) {Qp : Int32 → zz_St → Prop} (hret : ∀ (r : Int32) (σ2 : zz_St), narrow .int (.int r) = .int r → Qp r σ2 → ∀ (pc : Nat) (lv : List (Nat × Value)), decode cX8_solid pc = .ok (.ireturn, 1) → zz_G p l e zrm8_solid s m args below meth c Q D A (wM ad cy) 3 pc lv [.int r] σ2) (h : zq8_solid v1 σ Qp) : zz_G p l e zrm8_solid s m args below meth c Q D A (wM ad cy) 3 0 [(0, .ref (ad 0)), (1, .int v1)] [] σ := by
  unfold zq8_solid at h
  refine zz_iload_n K 1 dX8_solid_0 rfl rfl ?_
  refine zz_i2l K dX8_solid_1 ?_
  refine zz_lconst K (v := (0 : Int64)) dX8_solid_2 rfl ?_
  refine zz_ldc2 K zlk_X8_solid_1 dX8_solid_3 ?_
  refine zz_callSi1 K zz_nw_nil [.long (v1.toInt64), .long (0 : Int64), .long (5 : Int64)] (zc8_in l D ad cy (v1.toInt64) (0 : Int64) (5 : Int64) σ _ h) gX8_solid_X8_in rfl ⟨rfl, rfl⟩ zds_yX8_in_s ⟨Nat.le_of_ble_eq_true rfl, Nat.le_of_ble_eq_true rfl⟩ rfl rfl (Nat.le_of_ble_eq_true rfl) dX8_solid_6 (fun r47 h => ?_)
  refine zz_if_ne K 46 dX8_solid_9 rfl (fun c48 => ?_) (fun c48 => ?_)
  · have h := (And.left h) c48
    exact zu8_solid_46 K hret h
  · have h := (And.right h) c48
    refine zz_iload_n K 1 dX8_solid_12 rfl rfl ?_
    refine zz_i2l K dX8_solid_13 ?_
    refine zz_ldc2 K zlk_X8_solid_2 dX8_solid_14 ?_
    refine zz_aload_n K 0 dX8_solid_17 rfl rfl ?_
    refine zz_callVi1 K zz_nw_nil [] (zc8_isTetra l D ad cy  σ _ h) gX8_solid_X8_isTetra rfl ⟨rfl, rfl⟩ zds_yX8_isTetra_v ⟨Nat.le_of_ble_eq_true rfl, Nat.le_of_ble_eq_true rfl⟩ (wM_at_0 ad cy _) rfl rfl rfl rfl (Nat.le_of_ble_eq_true rfl) dX8_solid_18 (fun r49 h => ?_)
    refine zz_if_eq K 30 dX8_solid_21 rfl (fun c50 => ?_) (fun c50 => ?_)
    · have h := (And.left h) c50
      refine zz_ldc2 K zlk_X8_solid_4 dX8_solid_30 ?_
      exact zu8_solid_33 K hret h
    · have h := (And.right h) c50
      refine zz_ldc2 K zlk_X8_solid_3 dX8_solid_24 ?_
      refine zz_goto K 33 dX8_solid_27 rfl ?_
      exact zu8_solid_33 K hret h
set_option maxRecDepth 100000 in
theorem zc8_solid (l : Launch) (D : va_G) (ad : Nat → Nat) (cy : Nat → ClassId) (v1 : Int32) (σ : zz_St) (Qp : Int32 → zz_St → Prop) (h : zq8_solid v1 σ Qp) : zz_Mi l yX8_solid wsX8_solid zrm8_solid D (tysM cy) (wM ad cy) [] [.ref (ad 0), .int v1] σ Qp :=
  zz_Mi.of zz_nw_nil (wM_ad ad cy) (by decide +kernel) rfl ⟨rfl, rfl⟩ (Nat.le_of_ble_eq_true rfl) (fun p e s m args below meth c A QW K hret => zu8_solid_0 K  hret h)
theorem zin_X8_keeps_X8 : ∀ w ∈ wsX80, w ∈ wsX8_keeps := fun w h => List.mem_cons_of_mem _ (List.mem_append_right _ h)
theorem zlk_X8_keeps_1 : Cond.fieldLink RX8 198 "SolidsRolledModel" "done" "I" ∈ wsX8_keeps := List.mem_of_getElem? (i := 1) rfl
theorem zcb_20 : (Int8.ofInt (20)).toInt32 = (20 : Int32) := by decide
theorem zcb_64 : (Int8.ofInt (64)).toInt32 = (64 : Int32) := by decide
theorem zcs_1280 : (Int16.ofInt (1280)).toInt32 = (1280 : Int32) := by decide
theorem zlk_X8_keeps_2 : Cond.fieldLink RX8 54 "SolidsRolledModel" "kept" "[I" ∈ wsX8_keeps := List.mem_of_getElem? (i := 2) rfl
theorem zlk_X8_keeps_3 : Cond.fieldLink RX8 147 "SolidsRolledModel" "place" "I" ∈ wsX8_keeps := List.mem_of_getElem? (i := 3) rfl
theorem zlk_X8_keeps_4 : Cond.fieldLink RX8 42 "SolidsRolledModel" "faces" "[I" ∈ wsX8_keeps := List.mem_of_getElem? (i := 4) rfl
theorem zcb_7 : (Int8.ofInt (7)).toInt32 = (7 : Int32) := by decide
theorem zlk_X8_keeps_5 : Cond.fieldLink RX8 32 "SolidsRolledModel" "prints" "[I" ∈ wsX8_keeps := List.mem_of_getElem? (i := 5) rfl
abbrev zrm8_keeps : Room := { frames := 0, cells := 0, slots := 0, locals := 0 }
set_option maxHeartbeats 4000000 in
set_option maxRecDepth 100000 in
theorem zu8_keeps_100 {p : Program} {l : Launch} {e : Env} {s : State} {m : MethodId} {args : Array Value} {below : List Frame} {meth : Method} {c : Code} {Q : State → Prop} {D : va_G} {A : Nat → Prop} {ad : Nat → Nat} {cy : Nat → ClassId} {v1 : Int32} {v2 : Int32} {σ : zz_St} (K : zz_K p s m args c cX8_keeps 3 RX8 wsX8_keeps D (tysM cy) A (wM ad cy) []) {Qp : zz_St → Prop} (hret : ∀ (σ2 : zz_St), Qp σ2 → ∀ (pc : Nat) (lv : List (Nat × Value)), decode cX8_keeps pc = .ok (.return_, 1) → zz_G p l e zrm8_keeps s m args below meth c Q D A (wM ad cy) 3 pc lv [] σ2) (h : zq8_keeps_100 v1 v2 σ Qp) : zz_G p l e zrm8_keeps s m args below meth c Q D A (wM ad cy) 3 100 [(0, .ref (ad 0)), (1, .int v1), (2, .int v2)] [] σ := by
  unfold zq8_keeps_100 at h
  obtain ⟨I100, M100, h0, hs⟩ := h
  have key : ∀ (n : Nat) (v2 : Int32) (σ : zz_St), M100 v2 σ < n → I100 v2 σ → zz_G p l e zrm8_keeps s m args below meth c Q D A (wM ad cy) 3 100 [(0, .ref (ad 0)), (1, .int v1), (2, .int v2)] [] σ := by
    intro n
    induction n with
    | zero => intro v2 σ hlt; exact absurd hlt (Nat.not_lt_zero _)
    | succ n ih =>
      intro v2 σ hlt hI
      have h := hs v2 σ hI
      have hB100 : ∀ (v2' : Int32) (σ' : zz_St), (fun v2' σ' => I100 v2' σ' ∧ M100 v2' σ' < M100 v2 σ) v2' σ' → zz_G p l e zrm8_keeps s m args below meth c Q D A (wM ad cy) 3 100 [(0, .ref (ad 0)), (1, .int v1), (2, .int v2')] [] σ' := fun v2' σ' hz => ih v2' σ' (Nat.lt_of_lt_of_le hz.2 (Nat.le_of_lt_succ hlt)) hz.1
      refine zz_iload_n K 2 dX8_keeps_100 rfl rfl ?_
      refine zz_bipush K dX8_keeps_101 zcb_36 ?_
      refine zz_icmp_ge K 129 dX8_keeps_103 rfl (fun c12 => ?_) (fun c12 => ?_)
      · have h := (And.left h) c12
        refine zz_aload_n K 0 dX8_keeps_129 rfl rfl ?_
        refine zz_dup K rfl dX8_keeps_130 ?_
        refine zg8_19 K zin_X8_keeps_X8 zlk_X8_keeps_1 dX8_keeps_131 ?_
        refine zz_iconst K dX8_keeps_134 zci_1 ?_
        refine zz_iadd K dX8_keeps_135 ?_
        refine zp8_19 K zin_X8_keeps_X8 zlk_X8_keeps_1 dX8_keeps_136 ?_
        refine zz_nms (fun g13 eg13 => ?_)
        have h := h g13 eg13
        exact hret _ h _ _ dX8_keeps_139
      · have h := (And.right h) c12
        refine zz_aload_n K 0 dX8_keeps_106 rfl rfl ?_
        refine zg8_18 K zin_X8_keeps_X8 zlk_X8_keeps_2 dX8_keeps_107 ?_
        refine zz_iload_n K 1 dX8_keeps_110 rfl rfl ?_
        refine zz_bipush K dX8_keeps_111 zcb_7 ?_
        refine zz_iadd K dX8_keeps_113 ?_
        refine zz_iload_n K 2 dX8_keeps_114 rfl rfl ?_
        refine zz_iadd K dX8_keeps_115 ?_
        refine zz_aload_n K 0 dX8_keeps_116 rfl rfl ?_
        refine zg8_5 K zin_X8_keeps_X8 zlk_X8_keeps_5 dX8_keeps_117 ?_
        refine zz_iload_n K 2 dX8_keeps_120 rfl rfl ?_
        obtain ⟨hin, h⟩ := h
        refine zz_iaload K 0 (wM_at_5 ad cy σ) rfl hin dX8_keeps_121 ?_
        obtain ⟨hin, h⟩ := h
        refine zz_iastore K 0 (σ2 := zz_A σ 18 (upd ((σ).2.1 18) ((v1 + (7 : Int32)) + v2).toNatClampNeg ((σ).2.1 5 v2.toNatClampNeg))) (wM_at_18 ad cy σ) (wM_set_18 ad cy σ _) rfl hin dX8_keeps_122 ?_
        refine zz_nms (fun g14 eg14 => ?_)
        have h := h g14 eg14
        refine zz_iinc K 2 [(2, .int (v2 + (1 : Int32))), (0, .ref (ad 0)), (1, .int v1)] dX8_keeps_123 zci_1 rfl (by decide) rfl ?_
        refine zz_goto K 100 dX8_keeps_126 rfl ?_
        refine zz_sub [1, 2, 0] [(0, .ref (ad 0)), (1, .int v1), (2, .int (v2 + (1 : Int32)))] rfl ?_
        exact hB100 (v2 + (1 : Int32)) g14 h
  exact key _ v2 σ (Nat.lt_succ_self _) h0
set_option maxHeartbeats 4000000 in
set_option maxRecDepth 100000 in
theorem zu8_keeps_70 {p : Program} {l : Launch} {e : Env} {s : State} {m : MethodId} {args : Array Value} {below : List Frame} {meth : Method} {c : Code} {Q : State → Prop} {D : va_G} {A : Nat → Prop} {ad : Nat → Nat} {cy : Nat → ClassId} {v1 : Int32} {v2 : Int32} {σ : zz_St} (K : zz_K p s m args c cX8_keeps 3 RX8 wsX8_keeps D (tysM cy) A (wM ad cy) []) {Qp : zz_St → Prop} (hret : ∀ (σ2 : zz_St), Qp σ2 → ∀ (pc : Nat) (lv : List (Nat × Value)), decode cX8_keeps pc = .ok (.return_, 1) → zz_G p l e zrm8_keeps s m args below meth c Q D A (wM ad cy) 3 pc lv [] σ2) (h : zq8_keeps_70 v1 v2 σ Qp) : zz_G p l e zrm8_keeps s m args below meth c Q D A (wM ad cy) 3 70 [(0, .ref (ad 0)), (1, .int v1), (2, .int v2)] [] σ := by
  unfold zq8_keeps_70 at h
  obtain ⟨I70, M70, h0, hs⟩ := h
  have key : ∀ (n : Nat) (v2 : Int32) (σ : zz_St), M70 v2 σ < n → I70 v2 σ → zz_G p l e zrm8_keeps s m args below meth c Q D A (wM ad cy) 3 70 [(0, .ref (ad 0)), (1, .int v1), (2, .int v2)] [] σ := by
    intro n
    induction n with
    | zero => intro v2 σ hlt; exact absurd hlt (Nat.not_lt_zero _)
    | succ n ih =>
      intro v2 σ hlt hI
      have h := hs v2 σ hI
      have hB70 : ∀ (v2' : Int32) (σ' : zz_St), (fun v2' σ' => I70 v2' σ' ∧ M70 v2' σ' < M70 v2 σ) v2' σ' → zz_G p l e zrm8_keeps s m args below meth c Q D A (wM ad cy) 3 70 [(0, .ref (ad 0)), (1, .int v1), (2, .int v2')] [] σ' := fun v2' σ' hz => ih v2' σ' (Nat.lt_of_lt_of_le hz.2 (Nat.le_of_lt_succ hlt)) hz.1
      refine zz_iload_n K 2 dX8_keeps_70 rfl rfl ?_
      refine zz_bipush K dX8_keeps_71 zcb_6 ?_
      refine zz_icmp_ge K 98 dX8_keeps_73 rfl (fun c15 => ?_) (fun c15 => ?_)
      · have h := (And.left h) c15
        refine zz_iconst K dX8_keeps_98 zci_0 ?_
        refine zz_istore_n K [(2, .int (0 : Int32)), (0, .ref (ad 0)), (1, .int v1)] dX8_keeps_99 rfl (by decide) rfl ?_
        refine zz_sub [1, 2, 0] [(0, .ref (ad 0)), (1, .int v1), (2, .int (0 : Int32))] rfl ?_
        exact zu8_keeps_100 K hret h
      · have h := (And.right h) c15
        refine zz_aload_n K 0 dX8_keeps_76 rfl rfl ?_
        refine zg8_18 K zin_X8_keeps_X8 zlk_X8_keeps_2 dX8_keeps_77 ?_
        refine zz_iload_n K 1 dX8_keeps_80 rfl rfl ?_
        refine zz_iconst K dX8_keeps_81 zci_1 ?_
        refine zz_iadd K dX8_keeps_82 ?_
        refine zz_iload_n K 2 dX8_keeps_83 rfl rfl ?_
        refine zz_iadd K dX8_keeps_84 ?_
        refine zz_aload_n K 0 dX8_keeps_85 rfl rfl ?_
        refine zg8_10 K zin_X8_keeps_X8 zlk_X8_keeps_4 dX8_keeps_86 ?_
        refine zz_iload_n K 2 dX8_keeps_89 rfl rfl ?_
        obtain ⟨hin, h⟩ := h
        refine zz_iaload K 0 (wM_at_10 ad cy σ) rfl hin dX8_keeps_90 ?_
        obtain ⟨hin, h⟩ := h
        refine zz_iastore K 0 (σ2 := zz_A σ 18 (upd ((σ).2.1 18) ((v1 + (1 : Int32)) + v2).toNatClampNeg ((σ).2.1 10 v2.toNatClampNeg))) (wM_at_18 ad cy σ) (wM_set_18 ad cy σ _) rfl hin dX8_keeps_91 ?_
        refine zz_nms (fun g16 eg16 => ?_)
        have h := h g16 eg16
        refine zz_iinc K 2 [(2, .int (v2 + (1 : Int32))), (0, .ref (ad 0)), (1, .int v1)] dX8_keeps_92 zci_1 rfl (by decide) rfl ?_
        refine zz_goto K 70 dX8_keeps_95 rfl ?_
        refine zz_sub [1, 2, 0] [(0, .ref (ad 0)), (1, .int v1), (2, .int (v2 + (1 : Int32)))] rfl ?_
        exact hB70 (v2 + (1 : Int32)) g16 h
  exact key _ v2 σ (Nat.lt_succ_self _) h0
set_option maxHeartbeats 4000000 in
set_option maxRecDepth 100000 in
theorem zu8_keeps_50 {p : Program} {l : Launch} {e : Env} {s : State} {m : MethodId} {args : Array Value} {below : List Frame} {meth : Method} {c : Code} {Q : State → Prop} {D : va_G} {A : Nat → Prop} {ad : Nat → Nat} {cy : Nat → ClassId}  {σ : zz_St} (K : zz_K p s m args c cX8_keeps 3 RX8 wsX8_keeps D (tysM cy) A (wM ad cy) []) {Qp : zz_St → Prop} (hret : ∀ (σ2 : zz_St), Qp σ2 → ∀ (pc : Nat) (lv : List (Nat × Value)), decode cX8_keeps pc = .ok (.return_, 1) → zz_G p l e zrm8_keeps s m args below meth c Q D A (wM ad cy) 3 pc lv [] σ2) (h : zq8_keeps_50 σ Qp) : zz_G p l e zrm8_keeps s m args below meth c Q D A (wM ad cy) 3 50 [(0, .ref (ad 0))] [] σ := by
  unfold zq8_keeps_50 at h
  refine zz_bipush K dX8_keeps_50 zcb_64 ?_
  refine zz_aload_n K 0 dX8_keeps_52 rfl rfl ?_
  refine zg8_19 K zin_X8_keeps_X8 zlk_X8_keeps_1 dX8_keeps_53 ?_
  refine zz_imul K dX8_keeps_56 ?_
  refine zz_nmi (fun x17 ex17 => ?_)
  have h := h x17 ex17
  refine zz_istore_n K [(1, .int x17), (0, .ref (ad 0))] dX8_keeps_57 rfl (by decide) rfl ?_
  refine zz_aload_n K 1 dX8_keeps_58 rfl rfl ?_
  refine zg8_18 K zin_X8_keeps_X8 zlk_X8_keeps_2 dX8_keeps_59 ?_
  refine zz_iload_n K 0 dX8_keeps_62 rfl rfl ?_
  refine zz_aload_n K 1 dX8_keeps_63 rfl rfl ?_
  refine zg8_8 K zin_X8_keeps_X8 zlk_X8_keeps_3 dX8_keeps_64 ?_
  obtain ⟨hin, h⟩ := h
  refine zz_iastore K 0 (σ2 := zz_A σ 18 (upd ((σ).2.1 18) x17.toNatClampNeg ((σ).1 8))) (wM_at_18 ad cy σ) (wM_set_18 ad cy σ _) rfl hin dX8_keeps_67 ?_
  refine zz_nms (fun g18 eg18 => ?_)
  have h := h g18 eg18
  refine zz_iconst K dX8_keeps_68 zci_0 ?_
  refine zz_istore_n K [(2, .int (0 : Int32)), (1, .int x17), (0, .ref (ad 0))] dX8_keeps_69 rfl (by decide) rfl ?_
  refine zz_sub [2, 1, 0] [(0, .ref (ad 0)), (1, .int x17), (2, .int (0 : Int32))] rfl ?_
  exact zu8_keeps_70 K hret h
set_option maxHeartbeats 4000000 in
set_option maxRecDepth 100000 in
theorem zu8_keeps_12 {p : Program} {l : Launch} {e : Env} {s : State} {m : MethodId} {args : Array Value} {below : List Frame} {meth : Method} {c : Code} {Q : State → Prop} {D : va_G} {A : Nat → Prop} {ad : Nat → Nat} {cy : Nat → ClassId} {v1 : Int32} {σ : zz_St} (K : zz_K p s m args c cX8_keeps 3 RX8 wsX8_keeps D (tysM cy) A (wM ad cy) []) {Qp : zz_St → Prop} (hret : ∀ (σ2 : zz_St), Qp σ2 → ∀ (pc : Nat) (lv : List (Nat × Value)), decode cX8_keeps pc = .ok (.return_, 1) → zz_G p l e zrm8_keeps s m args below meth c Q D A (wM ad cy) 3 pc lv [] σ2) (h : zq8_keeps_12 v1 σ Qp) : zz_G p l e zrm8_keeps s m args below meth c Q D A (wM ad cy) 3 12 [(0, .ref (ad 0)), (1, .int v1)] [] σ := by
  unfold zq8_keeps_12 at h
  obtain ⟨I12, M12, h0, hs⟩ := h
  have key : ∀ (n : Nat) (v1 : Int32) (σ : zz_St), M12 v1 σ < n → I12 v1 σ → zz_G p l e zrm8_keeps s m args below meth c Q D A (wM ad cy) 3 12 [(0, .ref (ad 0)), (1, .int v1)] [] σ := by
    intro n
    induction n with
    | zero => intro v1 σ hlt; exact absurd hlt (Nat.not_lt_zero _)
    | succ n ih =>
      intro v1 σ hlt hI
      have h := hs v1 σ hI
      have hB12 : ∀ (v1' : Int32) (σ' : zz_St), (fun v1' σ' => I12 v1' σ' ∧ M12 v1' σ' < M12 v1 σ) v1' σ' → zz_G p l e zrm8_keeps s m args below meth c Q D A (wM ad cy) 3 12 [(0, .ref (ad 0)), (1, .int v1')] [] σ' := fun v1' σ' hz => ih v1' σ' (Nat.lt_of_lt_of_le hz.2 (Nat.le_of_lt_succ hlt)) hz.1
      refine zz_iload_n K 1 dX8_keeps_12 rfl rfl ?_
      refine zz_sipush K dX8_keeps_13 zcs_1280 ?_
      refine zz_icmp_ge K 40 dX8_keeps_16 rfl (fun c19 => ?_) (fun c19 => ?_)
      · have h := (And.left h) c19
        refine zz_aload_n K 0 dX8_keeps_40 rfl rfl ?_
        refine zz_dup K rfl dX8_keeps_41 ?_
        refine zg8_19 K zin_X8_keeps_X8 zlk_X8_keeps_1 dX8_keeps_42 ?_
        refine zz_iconst K dX8_keeps_45 zci_1 ?_
        refine zz_isub K dX8_keeps_46 ?_
        refine zp8_19 K zin_X8_keeps_X8 zlk_X8_keeps_1 dX8_keeps_47 ?_
        refine zz_nms (fun g20 eg20 => ?_)
        have h := h g20 eg20
        refine zz_sub [0] [(0, .ref (ad 0))] rfl ?_
        exact zu8_keeps_50 K hret h
      · have h := (And.right h) c19
        refine zz_aload_n K 0 dX8_keeps_19 rfl rfl ?_
        refine zg8_18 K zin_X8_keeps_X8 zlk_X8_keeps_2 dX8_keeps_20 ?_
        refine zz_iload_n K 1 dX8_keeps_23 rfl rfl ?_
        refine zz_bipush K dX8_keeps_24 zcb_64 ?_
        refine zz_isub K dX8_keeps_26 ?_
        refine zz_aload_n K 0 dX8_keeps_27 rfl rfl ?_
        refine zg8_18 K zin_X8_keeps_X8 zlk_X8_keeps_2 dX8_keeps_28 ?_
        refine zz_iload_n K 1 dX8_keeps_31 rfl rfl ?_
        obtain ⟨hin, h⟩ := h
        refine zz_iaload K 0 (wM_at_18 ad cy σ) rfl hin dX8_keeps_32 ?_
        obtain ⟨hin, h⟩ := h
        refine zz_iastore K 0 (σ2 := zz_A σ 18 (upd ((σ).2.1 18) (v1 - (64 : Int32)).toNatClampNeg ((σ).2.1 18 v1.toNatClampNeg))) (wM_at_18 ad cy σ) (wM_set_18 ad cy σ _) rfl hin dX8_keeps_33 ?_
        refine zz_nms (fun g21 eg21 => ?_)
        have h := h g21 eg21
        refine zz_iinc K 1 [(1, .int (v1 + (1 : Int32))), (0, .ref (ad 0))] dX8_keeps_34 zci_1 rfl (by decide) rfl ?_
        refine zz_goto K 12 dX8_keeps_37 rfl ?_
        refine zz_sub [1, 0] [(0, .ref (ad 0)), (1, .int (v1 + (1 : Int32)))] rfl ?_
        exact hB12 (v1 + (1 : Int32)) g21 h
  exact key _ v1 σ (Nat.lt_succ_self _) h0
set_option maxHeartbeats 4000000 in
set_option maxRecDepth 100000 in
theorem zu8_keeps_0 {p : Program} {l : Launch} {e : Env} {s : State} {m : MethodId} {args : Array Value} {below : List Frame} {meth : Method} {c : Code} {Q : State → Prop} {D : va_G} {A : Nat → Prop} {ad : Nat → Nat} {cy : Nat → ClassId}  {σ : zz_St} (K : zz_K p s m args c cX8_keeps 3 RX8 wsX8_keeps D (tysM cy) A (wM ad cy) []) {Qp : zz_St → Prop} (hret : ∀ (σ2 : zz_St), Qp σ2 → ∀ (pc : Nat) (lv : List (Nat × Value)), decode cX8_keeps pc = .ok (.return_, 1) → zz_G p l e zrm8_keeps s m args below meth c Q D A (wM ad cy) 3 pc lv [] σ2) (h : zq8_keeps σ Qp) : zz_G p l e zrm8_keeps s m args below meth c Q D A (wM ad cy) 3 0 [(0, .ref (ad 0))] [] σ := by
  unfold zq8_keeps at h
  refine zz_aload_n K 0 dX8_keeps_0 rfl rfl ?_
  refine zg8_19 K zin_X8_keeps_X8 zlk_X8_keeps_1 dX8_keeps_1 ?_
  refine zz_bipush K dX8_keeps_4 zcb_20 ?_
  refine zz_icmp_ne K 50 dX8_keeps_6 rfl (fun c22 => ?_) (fun c22 => ?_)
  · have h := (And.left h) c22
    exact zu8_keeps_50 K hret h
  · have h := (And.right h) c22
    refine zz_bipush K dX8_keeps_9 zcb_64 ?_
    refine zz_istore_n K [(1, .int (64 : Int32)), (0, .ref (ad 0))] dX8_keeps_11 rfl (by decide) rfl ?_
    refine zz_sub [1, 0] [(0, .ref (ad 0)), (1, .int (64 : Int32))] rfl ?_
    exact zu8_keeps_12 K hret h
set_option maxRecDepth 100000 in
theorem zc8_keeps (l : Launch) (D : va_G) (ad : Nat → Nat) (cy : Nat → ClassId)  (σ : zz_St) (Qp : zz_St → Prop) (h : zq8_keeps σ Qp) : zz_Mv l yX8_keeps wsX8_keeps zrm8_keeps D (tysM cy) (wM ad cy) [] [.ref (ad 0)] σ Qp :=
  zz_Mv.of zz_nw_nil (wM_ad ad cy) (by decide +kernel) rfl ⟨rfl, rfl⟩ (Nat.le_of_ble_eq_true rfl) (fun p e s m args below meth c A QW K hret => zu8_keeps_0 K  hret h)
theorem zin_X8_keeps1_X8 : ∀ w ∈ wsX80, w ∈ wsX8_keeps1 := fun w h => List.mem_cons_of_mem _ (List.mem_append_right _ h)
theorem zlk_X8_keeps1_1 : Cond.fieldLink RX8 147 "SolidsRolledModel" "place" "I" ∈ wsX8_keeps1 := List.mem_of_getElem? (i := 1) rfl
theorem zlk_X8_keeps1_2 : Cond.fieldLink RX8 233 "SolidsRolledModel" "placeAhead" "I" ∈ wsX8_keeps1 := List.mem_of_getElem? (i := 2) rfl
theorem zlk_X8_keeps1_3 : Cond.fieldLink RX8 57 "SolidsRolledModel" "facesAhead" "[I" ∈ wsX8_keeps1 := List.mem_of_getElem? (i := 3) rfl
theorem zlk_X8_keeps1_4 : Cond.fieldLink RX8 42 "SolidsRolledModel" "faces" "[I" ∈ wsX8_keeps1 := List.mem_of_getElem? (i := 4) rfl
abbrev zrm8_keeps1 : Room := { frames := 0, cells := 0, slots := 0, locals := 0 }
set_option maxHeartbeats 4000000 in
set_option maxRecDepth 100000 in
theorem zu8_keeps1_10 {p : Program} {l : Launch} {e : Env} {s : State} {m : MethodId} {args : Array Value} {below : List Frame} {meth : Method} {c : Code} {Q : State → Prop} {D : va_G} {A : Nat → Prop} {ad : Nat → Nat} {cy : Nat → ClassId} {v1 : Int32} {σ : zz_St} (K : zz_K p s m args c cX8_keeps1 2 RX8 wsX8_keeps1 D (tysM cy) A (wM ad cy) []) {Qp : zz_St → Prop} (hret : ∀ (σ2 : zz_St), Qp σ2 → ∀ (pc : Nat) (lv : List (Nat × Value)), decode cX8_keeps1 pc = .ok (.return_, 1) → zz_G p l e zrm8_keeps1 s m args below meth c Q D A (wM ad cy) 2 pc lv [] σ2) (h : zq8_keeps1_10 v1 σ Qp) : zz_G p l e zrm8_keeps1 s m args below meth c Q D A (wM ad cy) 2 10 [(0, .ref (ad 0)), (1, .int v1)] [] σ := by
  unfold zq8_keeps1_10 at h
  obtain ⟨I10, M10, h0, hs⟩ := h
  have key : ∀ (n : Nat) (v1 : Int32) (σ : zz_St), M10 v1 σ < n → I10 v1 σ → zz_G p l e zrm8_keeps1 s m args below meth c Q D A (wM ad cy) 2 10 [(0, .ref (ad 0)), (1, .int v1)] [] σ := by
    intro n
    induction n with
    | zero => intro v1 σ hlt; exact absurd hlt (Nat.not_lt_zero _)
    | succ n ih =>
      intro v1 σ hlt hI
      have h := hs v1 σ hI
      have hB10 : ∀ (v1' : Int32) (σ' : zz_St), (fun v1' σ' => I10 v1' σ' ∧ M10 v1' σ' < M10 v1 σ) v1' σ' → zz_G p l e zrm8_keeps1 s m args below meth c Q D A (wM ad cy) 2 10 [(0, .ref (ad 0)), (1, .int v1')] [] σ' := fun v1' σ' hz => ih v1' σ' (Nat.lt_of_lt_of_le hz.2 (Nat.le_of_lt_succ hlt)) hz.1
      refine zz_iload_n K 1 dX8_keeps1_10 rfl rfl ?_
      refine zz_bipush K dX8_keeps1_11 zcb_6 ?_
      refine zz_icmp_ge K 34 dX8_keeps1_13 rfl (fun c4 => ?_) (fun c4 => ?_)
      · have h := (And.left h) c4
        exact hret _ h _ _ dX8_keeps1_34
      · have h := (And.right h) c4
        refine zz_aload_n K 0 dX8_keeps1_16 rfl rfl ?_
        refine zg8_21 K zin_X8_keeps1_X8 zlk_X8_keeps1_3 dX8_keeps1_17 ?_
        refine zz_iload_n K 1 dX8_keeps1_20 rfl rfl ?_
        refine zz_aload_n K 0 dX8_keeps1_21 rfl rfl ?_
        refine zg8_10 K zin_X8_keeps1_X8 zlk_X8_keeps1_4 dX8_keeps1_22 ?_
        refine zz_iload_n K 1 dX8_keeps1_25 rfl rfl ?_
        obtain ⟨hin, h⟩ := h
        refine zz_iaload K 0 (wM_at_10 ad cy σ) rfl hin dX8_keeps1_26 ?_
        obtain ⟨hin, h⟩ := h
        refine zz_iastore K 0 (σ2 := zz_A σ 21 (upd ((σ).2.1 21) v1.toNatClampNeg ((σ).2.1 10 v1.toNatClampNeg))) (wM_at_21 ad cy σ) (wM_set_21 ad cy σ _) rfl hin dX8_keeps1_27 ?_
        refine zz_nms (fun g5 eg5 => ?_)
        have h := h g5 eg5
        refine zz_iinc K 1 [(1, .int (v1 + (1 : Int32))), (0, .ref (ad 0))] dX8_keeps1_28 zci_1 rfl (by decide) rfl ?_
        refine zz_goto K 10 dX8_keeps1_31 rfl ?_
        refine zz_sub [1, 0] [(0, .ref (ad 0)), (1, .int (v1 + (1 : Int32)))] rfl ?_
        exact hB10 (v1 + (1 : Int32)) g5 h
  exact key _ v1 σ (Nat.lt_succ_self _) h0
set_option maxHeartbeats 4000000 in
set_option maxRecDepth 100000 in
theorem zu8_keeps1_0 {p : Program} {l : Launch} {e : Env} {s : State} {m : MethodId} {args : Array Value} {below : List Frame} {meth : Method} {c : Code} {Q : State → Prop} {D : va_G} {A : Nat → Prop} {ad : Nat → Nat} {cy : Nat → ClassId}  {σ : zz_St} (K : zz_K p s m args c cX8_keeps1 2 RX8 wsX8_keeps1 D (tysM cy) A (wM ad cy) []) {Qp : zz_St → Prop} (hret : ∀ (σ2 : zz_St), Qp σ2 → ∀ (pc : Nat) (lv : List (Nat × Value)), decode cX8_keeps1 pc = .ok (.return_, 1) → zz_G p l e zrm8_keeps1 s m args below meth c Q D A (wM ad cy) 2 pc lv [] σ2) (h : zq8_keeps1 σ Qp) : zz_G p l e zrm8_keeps1 s m args below meth c Q D A (wM ad cy) 2 0 [(0, .ref (ad 0))] [] σ := by
  unfold zq8_keeps1 at h
  refine zz_aload_n K 0 dX8_keeps1_0 rfl rfl ?_
  refine zz_aload_n K 0 dX8_keeps1_1 rfl rfl ?_
  refine zg8_8 K zin_X8_keeps1_X8 zlk_X8_keeps1_1 dX8_keeps1_2 ?_
  refine zp8_20 K zin_X8_keeps1_X8 zlk_X8_keeps1_2 dX8_keeps1_5 ?_
  refine zz_nms (fun g6 eg6 => ?_)
  have h := h g6 eg6
  refine zz_iconst K dX8_keeps1_8 zci_0 ?_
  refine zz_istore_n K [(1, .int (0 : Int32)), (0, .ref (ad 0))] dX8_keeps1_9 rfl (by decide) rfl ?_
  refine zz_sub [1, 0] [(0, .ref (ad 0)), (1, .int (0 : Int32))] rfl ?_
  exact zu8_keeps1_10 K hret h
set_option maxRecDepth 100000 in
theorem zc8_keeps1 (l : Launch) (D : va_G) (ad : Nat → Nat) (cy : Nat → ClassId)  (σ : zz_St) (Qp : zz_St → Prop) (h : zq8_keeps1 σ Qp) : zz_Mv l yX8_keeps1 wsX8_keeps1 zrm8_keeps1 D (tysM cy) (wM ad cy) [] [.ref (ad 0)] σ Qp :=
  zz_Mv.of zz_nw_nil (wM_ad ad cy) (by decide +kernel) rfl ⟨rfl, rfl⟩ (Nat.le_of_ble_eq_true rfl) (fun p e s m args below meth c A QW K hret => zu8_keeps1_0 K  hret h)
theorem zin_X8_rollsTruly_X8 : ∀ w ∈ wsX80, w ∈ wsX8_rollsTruly := fun w h => List.mem_cons_of_mem _ (List.mem_append_right _ h)
theorem zlk_X8_rollsTruly_1 : Cond.fieldLink RX8 147 "SolidsRolledModel" "place" "I" ∈ wsX8_rollsTruly := List.mem_of_getElem? (i := 1) rfl
theorem zlk_X8_rollsTruly_4 : Cond.fieldLink RX8 233 "SolidsRolledModel" "placeAhead" "I" ∈ wsX8_rollsTruly := List.mem_of_getElem? (i := 4) rfl
theorem zlk_X8_rollsTruly_2 : Cond.fieldLink RX8 48 "SolidsRolledModel" "facesWere" "[I" ∈ wsX8_rollsTruly := List.mem_of_getElem? (i := 2) rfl
theorem zlk_X8_rollsTruly_3 : Cond.fieldLink RX8 42 "SolidsRolledModel" "faces" "[I" ∈ wsX8_rollsTruly := List.mem_of_getElem? (i := 3) rfl
theorem zlk_X8_rollsTruly_5 : Cond.fieldLink RX8 57 "SolidsRolledModel" "facesAhead" "[I" ∈ wsX8_rollsTruly := List.mem_of_getElem? (i := 5) rfl
theorem zlk_X8_rollsTruly_6 : Cond.fieldLink RX8 144 "SolidsRolledModel" "underMany" "I" ∈ wsX8_rollsTruly := List.mem_of_getElem? (i := 6) rfl
theorem zlk_X8_rollsTruly_7 : Cond.fieldLink RX8 35 "SolidsRolledModel" "ink" "I" ∈ wsX8_rollsTruly := List.mem_of_getElem? (i := 7) rfl
theorem zlk_X8_rollsTruly_8 : Cond.fieldLink RX8 32 "SolidsRolledModel" "prints" "[I" ∈ wsX8_rollsTruly := List.mem_of_getElem? (i := 8) rfl
theorem zlk_X8_rollsTruly_9 : Cond.fieldLink RX8 45 "SolidsRolledModel" "under" "[I" ∈ wsX8_rollsTruly := List.mem_of_getElem? (i := 9) rfl
theorem zds_yX8_keeps_v : yX8_keeps.cls = RX8 ∧ yX8_keeps.cls ≠ "java/lang/invoke/MethodHandle" ∧ yX8_keeps.cls ≠ "java/lang/invoke/VarHandle" ∧ (parseMethodDescriptor yX8_keeps.desc).map (fun d => d.parameters.length) = some 0 := by decide +kernel
theorem zds_yX8_rolls_v : yX8_rolls.cls = RX8 ∧ yX8_rolls.cls ≠ "java/lang/invoke/MethodHandle" ∧ yX8_rolls.cls ≠ "java/lang/invoke/VarHandle" ∧ (parseMethodDescriptor yX8_rolls.desc).map (fun d => d.parameters.length) = some 1 := by decide +kernel
theorem zds_yX8_keeps1_v : yX8_keeps1.cls = RX8 ∧ yX8_keeps1.cls ≠ "java/lang/invoke/MethodHandle" ∧ yX8_keeps1.cls ≠ "java/lang/invoke/VarHandle" ∧ (parseMethodDescriptor yX8_keeps1.desc).map (fun d => d.parameters.length) = some 0 := by decide +kernel
abbrev zrm8_rollsTruly : Room := { frames := 5, cells := 0, slots := 0, locals := 114 }
set_option maxHeartbeats 4000000 in
set_option maxRecDepth 100000 in
theorem zu8_rollsTruly_122 {p : Program} {l : Launch} {e : Env} {s : State} {m : MethodId} {args : Array Value} {below : List Frame} {meth : Method} {c : Code} {Q : State → Prop} {D : va_G} {A : Nat → Prop} {ad : Nat → Nat} {cy : Nat → ClassId} {v4 : Int32} {σ : zz_St} (K : zz_K p s m args c cX8_rollsTruly 5 RX8 wsX8_rollsTruly D (tysM cy) A (wM ad cy) []) {Qp : Int32 → zz_St → Prop} (hret : ∀ (r : Int32) (σ2 : zz_St), narrow .boolean (.int r) = .int r → Qp r σ2 → ∀ (pc : Nat) (lv : List (Nat × Value)), decode cX8_rollsTruly pc = .ok (.ireturn, 1) → zz_G p l e zrm8_rollsTruly s m args below meth c Q D A (wM ad cy) 5 pc lv [.int r] σ2) (h : zq8_rollsTruly_122 v4 σ Qp) : zz_G p l e zrm8_rollsTruly s m args below meth c Q D A (wM ad cy) 5 122 [(0, .ref (ad 0)), (4, .int v4)] [] σ := by
  unfold zq8_rollsTruly_122 at h
  obtain ⟨I122, M122, h0, hs⟩ := h
  have key : ∀ (n : Nat) (v4 : Int32) (σ : zz_St), M122 v4 σ < n → I122 v4 σ → zz_G p l e zrm8_rollsTruly s m args below meth c Q D A (wM ad cy) 5 122 [(0, .ref (ad 0)), (4, .int v4)] [] σ := by
    intro n
    induction n with
    | zero => intro v4 σ hlt; exact absurd hlt (Nat.not_lt_zero _)
    | succ n ih =>
      intro v4 σ hlt hI
      have h := hs v4 σ hI
      have hB122 : ∀ (v4' : Int32) (σ' : zz_St), (fun v4' σ' => I122 v4' σ' ∧ M122 v4' σ' < M122 v4 σ) v4' σ' → zz_G p l e zrm8_rollsTruly s m args below meth c Q D A (wM ad cy) 5 122 [(0, .ref (ad 0)), (4, .int v4')] [] σ' := fun v4' σ' hz => ih v4' σ' (Nat.lt_of_lt_of_le hz.2 (Nat.le_of_lt_succ hlt)) hz.1
      refine zz_iload K 1 dX8_rollsTruly_122 rfl ?_
      refine zz_aload_n K 0 dX8_rollsTruly_124 rfl rfl ?_
      refine zg8_12 K zin_X8_rollsTruly_X8 zlk_X8_rollsTruly_6 dX8_rollsTruly_125 ?_
      refine zz_icmp_ge K 161 dX8_rollsTruly_128 rfl (fun c21 => ?_) (fun c21 => ?_)
      · have h := (And.left h) c21
        refine zz_iconst K dX8_rollsTruly_161 zci_1 ?_
        exact hret _ _ rfl h _ _ dX8_rollsTruly_162
      · have h := (And.right h) c21
        refine zz_aload_n K 0 dX8_rollsTruly_131 rfl rfl ?_
        refine zg8_6 K zin_X8_rollsTruly_X8 zlk_X8_rollsTruly_7 dX8_rollsTruly_132 ?_
        refine zz_iconst K dX8_rollsTruly_135 zci_1 ?_
        refine zz_icmp_ne K 161 dX8_rollsTruly_136 rfl (fun c22 => ?_) (fun c22 => ?_)
        · have h := (And.left h) c22
          refine zz_iconst K dX8_rollsTruly_161 zci_1 ?_
          exact hret _ _ rfl h _ _ dX8_rollsTruly_162
        · have h := (And.right h) c22
          refine zz_aload_n K 0 dX8_rollsTruly_139 rfl rfl ?_
          refine zg8_5 K zin_X8_rollsTruly_X8 zlk_X8_rollsTruly_8 dX8_rollsTruly_140 ?_
          refine zz_aload_n K 0 dX8_rollsTruly_143 rfl rfl ?_
          refine zg8_11 K zin_X8_rollsTruly_X8 zlk_X8_rollsTruly_9 dX8_rollsTruly_144 ?_
          refine zz_iload K 1 dX8_rollsTruly_147 rfl ?_
          obtain ⟨hin, h⟩ := h
          refine zz_iaload K 0 (wM_at_11 ad cy σ) rfl hin dX8_rollsTruly_149 ?_
          refine zz_aload_n K 0 dX8_rollsTruly_150 rfl rfl ?_
          refine zz_callVi1 K zz_nw_nil [] (zc8_below l D ad cy  σ _ h) gX8_rollsTruly_X8_below rfl ⟨rfl, rfl⟩ zds_yX8_below_v ⟨Nat.le_of_ble_eq_true rfl, Nat.le_of_ble_eq_true rfl⟩ (wM_at_0 ad cy _) rfl rfl rfl rfl (Nat.le_of_ble_eq_true rfl) dX8_rollsTruly_151 (fun r23 h => ?_)
          obtain ⟨hin, h⟩ := h
          refine zz_iastore K 0 (σ2 := zz_A σ 5 (upd ((σ).2.1 5) ((σ).2.1 11 v4.toNatClampNeg).toNatClampNeg r23)) (wM_at_5 ad cy σ) (wM_set_5 ad cy σ _) rfl hin dX8_rollsTruly_154 ?_
          refine zz_nms (fun g24 eg24 => ?_)
          have h := h g24 eg24
          refine zz_iinc K 1 [(4, .int (v4 + (1 : Int32))), (0, .ref (ad 0))] dX8_rollsTruly_155 zci_1 rfl (by decide) rfl ?_
          refine zz_goto K 122 dX8_rollsTruly_158 rfl ?_
          refine zz_sub [1, 0] [(0, .ref (ad 0)), (4, .int (v4 + (1 : Int32)))] rfl ?_
          exact hB122 (v4 + (1 : Int32)) g24 h
  exact key _ v4 σ (Nat.lt_succ_self _) h0
set_option maxHeartbeats 4000000 in
set_option maxRecDepth 100000 in
theorem zu8_rollsTruly_90 {p : Program} {l : Launch} {e : Env} {s : State} {m : MethodId} {args : Array Value} {below : List Frame} {meth : Method} {c : Code} {Q : State → Prop} {D : va_G} {A : Nat → Prop} {ad : Nat → Nat} {cy : Nat → ClassId} {v3 : Int32} {σ : zz_St} (K : zz_K p s m args c cX8_rollsTruly 5 RX8 wsX8_rollsTruly D (tysM cy) A (wM ad cy) []) {Qp : Int32 → zz_St → Prop} (hret : ∀ (r : Int32) (σ2 : zz_St), narrow .boolean (.int r) = .int r → Qp r σ2 → ∀ (pc : Nat) (lv : List (Nat × Value)), decode cX8_rollsTruly pc = .ok (.ireturn, 1) → zz_G p l e zrm8_rollsTruly s m args below meth c Q D A (wM ad cy) 5 pc lv [.int r] σ2) (h : zq8_rollsTruly_90 v3 σ Qp) : zz_G p l e zrm8_rollsTruly s m args below meth c Q D A (wM ad cy) 5 90 [(0, .ref (ad 0)), (3, .int v3)] [] σ := by
  unfold zq8_rollsTruly_90 at h
  obtain ⟨I90, M90, h0, hs⟩ := h
  have key : ∀ (n : Nat) (v3 : Int32) (σ : zz_St), M90 v3 σ < n → I90 v3 σ → zz_G p l e zrm8_rollsTruly s m args below meth c Q D A (wM ad cy) 5 90 [(0, .ref (ad 0)), (3, .int v3)] [] σ := by
    intro n
    induction n with
    | zero => intro v3 σ hlt; exact absurd hlt (Nat.not_lt_zero _)
    | succ n ih =>
      intro v3 σ hlt hI
      have h := hs v3 σ hI
      have hB90 : ∀ (v3' : Int32) (σ' : zz_St), (fun v3' σ' => I90 v3' σ' ∧ M90 v3' σ' < M90 v3 σ) v3' σ' → zz_G p l e zrm8_rollsTruly s m args below meth c Q D A (wM ad cy) 5 90 [(0, .ref (ad 0)), (3, .int v3')] [] σ' := fun v3' σ' hz => ih v3' σ' (Nat.lt_of_lt_of_le hz.2 (Nat.le_of_lt_succ hlt)) hz.1
      refine zz_iload_n K 1 dX8_rollsTruly_90 rfl rfl ?_
      refine zz_bipush K dX8_rollsTruly_91 zcb_6 ?_
      refine zz_icmp_ge K 114 dX8_rollsTruly_93 rfl (fun c25 => ?_) (fun c25 => ?_)
      · have h := (And.left h) c25
        refine zz_aload_n K 0 dX8_rollsTruly_114 rfl rfl ?_
        refine zz_callVi K zz_nw_nil [] (zc8_tellsUnder l D ad cy  σ _ h) gX8_rollsTruly_X8_tellsUnder rfl ⟨rfl, rfl⟩ zds_yX8_tellsUnder_v ⟨Nat.le_of_ble_eq_true rfl, Nat.le_of_ble_eq_true rfl⟩ (wM_at_0 ad cy _) rfl rfl rfl rfl (Nat.le_of_ble_eq_true rfl) dX8_rollsTruly_115 (fun r26 g27 h => ?_)
        refine zz_istore_n K [(3, .int r26), (0, .ref (ad 0))] dX8_rollsTruly_118 rfl (by decide) rfl ?_
        refine zz_iconst K dX8_rollsTruly_119 zci_0 ?_
        refine zz_istore K [(4, .int (0 : Int32)), (3, .int r26), (0, .ref (ad 0))] dX8_rollsTruly_120 (by decide) rfl ?_
        refine zz_sub [2, 0] [(0, .ref (ad 0)), (4, .int (0 : Int32))] rfl ?_
        exact zu8_rollsTruly_122 K hret h
      · have h := (And.right h) c25
        refine zz_aload_n K 0 dX8_rollsTruly_96 rfl rfl ?_
        refine zg8_10 K zin_X8_rollsTruly_X8 zlk_X8_rollsTruly_3 dX8_rollsTruly_97 ?_
        refine zz_iload_n K 1 dX8_rollsTruly_100 rfl rfl ?_
        refine zz_aload_n K 0 dX8_rollsTruly_101 rfl rfl ?_
        refine zg8_13 K zin_X8_rollsTruly_X8 zlk_X8_rollsTruly_2 dX8_rollsTruly_102 ?_
        refine zz_iload_n K 1 dX8_rollsTruly_105 rfl rfl ?_
        obtain ⟨hin, h⟩ := h
        refine zz_iaload K 0 (wM_at_13 ad cy σ) rfl hin dX8_rollsTruly_106 ?_
        obtain ⟨hin, h⟩ := h
        refine zz_iastore K 0 (σ2 := zz_A σ 10 (upd ((σ).2.1 10) v3.toNatClampNeg ((σ).2.1 13 v3.toNatClampNeg))) (wM_at_10 ad cy σ) (wM_set_10 ad cy σ _) rfl hin dX8_rollsTruly_107 ?_
        refine zz_nms (fun g28 eg28 => ?_)
        have h := h g28 eg28
        refine zz_iinc K 1 [(3, .int (v3 + (1 : Int32))), (0, .ref (ad 0))] dX8_rollsTruly_108 zci_1 rfl (by decide) rfl ?_
        refine zz_goto K 90 dX8_rollsTruly_111 rfl ?_
        refine zz_sub [1, 0] [(0, .ref (ad 0)), (3, .int (v3 + (1 : Int32)))] rfl ?_
        exact hB90 (v3 + (1 : Int32)) g28 h
  exact key _ v3 σ (Nat.lt_succ_self _) h0
set_option maxHeartbeats 4000000 in
set_option maxRecDepth 100000 in
theorem zu8_rollsTruly_55 {p : Program} {l : Launch} {e : Env} {s : State} {m : MethodId} {args : Array Value} {below : List Frame} {meth : Method} {c : Code} {Q : State → Prop} {D : va_G} {A : Nat → Prop} {ad : Nat → Nat} {cy : Nat → ClassId} {v2 : Int32} {v3 : Int32} {σ : zz_St} (K : zz_K p s m args c cX8_rollsTruly 5 RX8 wsX8_rollsTruly D (tysM cy) A (wM ad cy) []) {Qp : Int32 → zz_St → Prop} (hret : ∀ (r : Int32) (σ2 : zz_St), narrow .boolean (.int r) = .int r → Qp r σ2 → ∀ (pc : Nat) (lv : List (Nat × Value)), decode cX8_rollsTruly pc = .ok (.ireturn, 1) → zz_G p l e zrm8_rollsTruly s m args below meth c Q D A (wM ad cy) 5 pc lv [.int r] σ2) (h : zq8_rollsTruly_55 v2 v3 σ Qp) : zz_G p l e zrm8_rollsTruly s m args below meth c Q D A (wM ad cy) 5 55 [(0, .ref (ad 0)), (2, .int v2), (3, .int v3)] [] σ := by
  unfold zq8_rollsTruly_55 at h
  obtain ⟨I55, M55, h0, hs⟩ := h
  have key : ∀ (n : Nat) (v3 : Int32) (σ : zz_St), M55 v3 σ < n → I55 v3 σ → zz_G p l e zrm8_rollsTruly s m args below meth c Q D A (wM ad cy) 5 55 [(0, .ref (ad 0)), (2, .int v2), (3, .int v3)] [] σ := by
    intro n
    induction n with
    | zero => intro v3 σ hlt; exact absurd hlt (Nat.not_lt_zero _)
    | succ n ih =>
      intro v3 σ hlt hI
      have h := hs v3 σ hI
      have hB55 : ∀ (v3' : Int32) (σ' : zz_St), (fun v3' σ' => I55 v3' σ' ∧ M55 v3' σ' < M55 v3 σ) v3' σ' → zz_G p l e zrm8_rollsTruly s m args below meth c Q D A (wM ad cy) 5 55 [(0, .ref (ad 0)), (2, .int v2), (3, .int v3')] [] σ' := fun v3' σ' hz => ih v3' σ' (Nat.lt_of_lt_of_le hz.2 (Nat.le_of_lt_succ hlt)) hz.1
      refine zz_iload_n K 2 dX8_rollsTruly_55 rfl rfl ?_
      refine zz_bipush K dX8_rollsTruly_56 zcb_6 ?_
      refine zz_icmp_ge K 79 dX8_rollsTruly_58 rfl (fun c29 => ?_) (fun c29 => ?_)
      · have h := (And.left h) c29
        refine zz_aload_n K 0 dX8_rollsTruly_79 rfl rfl ?_
        refine zz_callVv K zz_nw_nil [] (zc8_keeps l D ad cy  σ _ h) gX8_rollsTruly_X8_keeps rfl ⟨rfl, rfl⟩ zds_yX8_keeps_v ⟨Nat.le_of_ble_eq_true rfl, Nat.le_of_ble_eq_true rfl⟩ (wM_at_0 ad cy _) rfl rfl rfl rfl (Nat.le_of_ble_eq_true rfl) dX8_rollsTruly_80 (fun g30 h => ?_)
        refine zz_aload_n K 0 dX8_rollsTruly_83 rfl rfl ?_
        refine zz_iload_n K 1 dX8_rollsTruly_84 rfl rfl ?_
        refine zp8_8 K zin_X8_rollsTruly_X8 zlk_X8_rollsTruly_1 dX8_rollsTruly_85 ?_
        refine zz_nms (fun g31 eg31 => ?_)
        have h := h g31 eg31
        refine zz_iconst K dX8_rollsTruly_88 zci_0 ?_
        refine zz_istore_n K [(3, .int (0 : Int32)), (0, .ref (ad 0)), (2, .int v2)] dX8_rollsTruly_89 rfl (by decide) rfl ?_
        refine zz_sub [1, 0] [(0, .ref (ad 0)), (3, .int (0 : Int32))] rfl ?_
        exact zu8_rollsTruly_90 K hret h
      · have h := (And.right h) c29
        refine zz_aload_n K 0 dX8_rollsTruly_61 rfl rfl ?_
        refine zg8_10 K zin_X8_rollsTruly_X8 zlk_X8_rollsTruly_3 dX8_rollsTruly_62 ?_
        refine zz_iload_n K 2 dX8_rollsTruly_65 rfl rfl ?_
        refine zz_aload_n K 0 dX8_rollsTruly_66 rfl rfl ?_
        refine zg8_21 K zin_X8_rollsTruly_X8 zlk_X8_rollsTruly_5 dX8_rollsTruly_67 ?_
        refine zz_iload_n K 2 dX8_rollsTruly_70 rfl rfl ?_
        obtain ⟨hin, h⟩ := h
        refine zz_iaload K 0 (wM_at_21 ad cy σ) rfl hin dX8_rollsTruly_71 ?_
        obtain ⟨hin, h⟩ := h
        refine zz_iastore K 0 (σ2 := zz_A σ 10 (upd ((σ).2.1 10) v3.toNatClampNeg ((σ).2.1 21 v3.toNatClampNeg))) (wM_at_10 ad cy σ) (wM_set_10 ad cy σ _) rfl hin dX8_rollsTruly_72 ?_
        refine zz_nms (fun g32 eg32 => ?_)
        have h := h g32 eg32
        refine zz_iinc K 2 [(3, .int (v3 + (1 : Int32))), (0, .ref (ad 0)), (2, .int v2)] dX8_rollsTruly_73 zci_1 rfl (by decide) rfl ?_
        refine zz_goto K 55 dX8_rollsTruly_76 rfl ?_
        refine zz_sub [1, 2, 0] [(0, .ref (ad 0)), (2, .int v2), (3, .int (v3 + (1 : Int32)))] rfl ?_
        exact hB55 (v3 + (1 : Int32)) g32 h
  exact key _ v3 σ (Nat.lt_succ_self _) h0
set_option maxHeartbeats 4000000 in
set_option maxRecDepth 100000 in
theorem zu8_rollsTruly_21 {p : Program} {l : Launch} {e : Env} {s : State} {m : MethodId} {args : Array Value} {below : List Frame} {meth : Method} {c : Code} {Q : State → Prop} {D : va_G} {A : Nat → Prop} {ad : Nat → Nat} {cy : Nat → ClassId} {v2 : Int32} {v3 : Int32} {σ : zz_St} (K : zz_K p s m args c cX8_rollsTruly 5 RX8 wsX8_rollsTruly D (tysM cy) A (wM ad cy) []) {Qp : Int32 → zz_St → Prop} (hret : ∀ (r : Int32) (σ2 : zz_St), narrow .boolean (.int r) = .int r → Qp r σ2 → ∀ (pc : Nat) (lv : List (Nat × Value)), decode cX8_rollsTruly pc = .ok (.ireturn, 1) → zz_G p l e zrm8_rollsTruly s m args below meth c Q D A (wM ad cy) 5 pc lv [.int r] σ2) (h : zq8_rollsTruly_21 v2 v3 σ Qp) : zz_G p l e zrm8_rollsTruly s m args below meth c Q D A (wM ad cy) 5 21 [(0, .ref (ad 0)), (2, .int v2), (3, .int v3)] [] σ := by
  unfold zq8_rollsTruly_21 at h
  obtain ⟨I21, M21, h0, hs⟩ := h
  have key : ∀ (n : Nat) (v3 : Int32) (σ : zz_St), M21 v3 σ < n → I21 v3 σ → zz_G p l e zrm8_rollsTruly s m args below meth c Q D A (wM ad cy) 5 21 [(0, .ref (ad 0)), (2, .int v2), (3, .int v3)] [] σ := by
    intro n
    induction n with
    | zero => intro v3 σ hlt; exact absurd hlt (Nat.not_lt_zero _)
    | succ n ih =>
      intro v3 σ hlt hI
      have h := hs v3 σ hI
      have hB21 : ∀ (v3' : Int32) (σ' : zz_St), (fun v3' σ' => I21 v3' σ' ∧ M21 v3' σ' < M21 v3 σ) v3' σ' → zz_G p l e zrm8_rollsTruly s m args below meth c Q D A (wM ad cy) 5 21 [(0, .ref (ad 0)), (2, .int v2), (3, .int v3')] [] σ' := fun v3' σ' hz => ih v3' σ' (Nat.lt_of_lt_of_le hz.2 (Nat.le_of_lt_succ hlt)) hz.1
      refine zz_iload_n K 2 dX8_rollsTruly_21 rfl rfl ?_
      refine zz_bipush K dX8_rollsTruly_22 zcb_6 ?_
      refine zz_icmp_ge K 45 dX8_rollsTruly_24 rfl (fun c33 => ?_) (fun c33 => ?_)
      · have h := (And.left h) c33
        refine zz_aload_n K 0 dX8_rollsTruly_45 rfl rfl ?_
        refine zz_aload_n K 0 dX8_rollsTruly_46 rfl rfl ?_
        refine zg8_20 K zin_X8_rollsTruly_X8 zlk_X8_rollsTruly_4 dX8_rollsTruly_47 ?_
        refine zp8_8 K zin_X8_rollsTruly_X8 zlk_X8_rollsTruly_1 dX8_rollsTruly_50 ?_
        refine zz_nms (fun g34 eg34 => ?_)
        have h := h g34 eg34
        refine zz_iconst K dX8_rollsTruly_53 zci_0 ?_
        refine zz_istore_n K [(3, .int (0 : Int32)), (0, .ref (ad 0)), (2, .int v2)] dX8_rollsTruly_54 rfl (by decide) rfl ?_
        refine zz_sub [1, 2, 0] [(0, .ref (ad 0)), (2, .int v2), (3, .int (0 : Int32))] rfl ?_
        exact zu8_rollsTruly_55 K hret h
      · have h := (And.right h) c33
        refine zz_aload_n K 0 dX8_rollsTruly_27 rfl rfl ?_
        refine zg8_13 K zin_X8_rollsTruly_X8 zlk_X8_rollsTruly_2 dX8_rollsTruly_28 ?_
        refine zz_iload_n K 2 dX8_rollsTruly_31 rfl rfl ?_
        refine zz_aload_n K 0 dX8_rollsTruly_32 rfl rfl ?_
        refine zg8_10 K zin_X8_rollsTruly_X8 zlk_X8_rollsTruly_3 dX8_rollsTruly_33 ?_
        refine zz_iload_n K 2 dX8_rollsTruly_36 rfl rfl ?_
        obtain ⟨hin, h⟩ := h
        refine zz_iaload K 0 (wM_at_10 ad cy σ) rfl hin dX8_rollsTruly_37 ?_
        obtain ⟨hin, h⟩ := h
        refine zz_iastore K 0 (σ2 := zz_A σ 13 (upd ((σ).2.1 13) v3.toNatClampNeg ((σ).2.1 10 v3.toNatClampNeg))) (wM_at_13 ad cy σ) (wM_set_13 ad cy σ _) rfl hin dX8_rollsTruly_38 ?_
        refine zz_nms (fun g35 eg35 => ?_)
        have h := h g35 eg35
        refine zz_iinc K 2 [(3, .int (v3 + (1 : Int32))), (0, .ref (ad 0)), (2, .int v2)] dX8_rollsTruly_39 zci_1 rfl (by decide) rfl ?_
        refine zz_goto K 21 dX8_rollsTruly_42 rfl ?_
        refine zz_sub [1, 2, 0] [(0, .ref (ad 0)), (2, .int v2), (3, .int (v3 + (1 : Int32)))] rfl ?_
        exact hB21 (v3 + (1 : Int32)) g35 h
  exact key _ v3 σ (Nat.lt_succ_self _) h0
set_option maxHeartbeats 4000000 in
set_option maxRecDepth 100000 in
theorem zu8_rollsTruly_0 {p : Program} {l : Launch} {e : Env} {s : State} {m : MethodId} {args : Array Value} {below : List Frame} {meth : Method} {c : Code} {Q : State → Prop} {D : va_G} {A : Nat → Prop} {ad : Nat → Nat} {cy : Nat → ClassId} {v1 : Int32} {σ : zz_St} (K : zz_K p s m args c cX8_rollsTruly 5 RX8 wsX8_rollsTruly D (tysM cy) A (wM ad cy) []) {Qp : Int32 → zz_St → Prop} (hret : ∀ (r : Int32) (σ2 : zz_St), narrow .boolean (.int r) = .int r → Qp r σ2 → ∀ (pc : Nat) (lv : List (Nat × Value)), decode cX8_rollsTruly pc = .ok (.ireturn, 1) → zz_G p l e zrm8_rollsTruly s m args below meth c Q D A (wM ad cy) 5 pc lv [.int r] σ2) (h : zq8_rollsTruly v1 σ Qp) : zz_G p l e zrm8_rollsTruly s m args below meth c Q D A (wM ad cy) 5 0 [(0, .ref (ad 0)), (1, .int v1)] [] σ := by
  unfold zq8_rollsTruly at h
  refine zz_aload_n K 0 dX8_rollsTruly_0 rfl rfl ?_
  refine zz_callVv K zz_nw_nil [] (zc8_keeps1 l D ad cy  σ _ h) gX8_rollsTruly_X8_keeps1 rfl ⟨rfl, rfl⟩ zds_yX8_keeps1_v ⟨Nat.le_of_ble_eq_true rfl, Nat.le_of_ble_eq_true rfl⟩ (wM_at_0 ad cy _) rfl rfl rfl rfl (Nat.le_of_ble_eq_true rfl) dX8_rollsTruly_1 (fun g36 h => ?_)
  refine zz_aload_n K 0 dX8_rollsTruly_4 rfl rfl ?_
  refine zz_iload_n K 1 dX8_rollsTruly_5 rfl rfl ?_
  refine zz_callVi K zz_nw_nil [.int v1] (zc8_rolls l D ad cy v1 g36 _ h) gX8_rollsTruly_X8_rolls rfl ⟨rfl, rfl⟩ zds_yX8_rolls_v ⟨Nat.le_of_ble_eq_true rfl, Nat.le_of_ble_eq_true rfl⟩ (wM_at_0 ad cy _) rfl rfl rfl rfl (Nat.le_of_ble_eq_true rfl) dX8_rollsTruly_6 (fun r37 g38 h => ?_)
  refine zz_if_ne K 14 dX8_rollsTruly_9 rfl (fun c39 => ?_) (fun c39 => ?_)
  · have h := (And.left h) c39
    refine zz_aload_n K 0 dX8_rollsTruly_14 rfl rfl ?_
    refine zg8_8 K zin_X8_rollsTruly_X8 zlk_X8_rollsTruly_1 dX8_rollsTruly_15 ?_
    refine zz_nmi (fun x40 ex40 => ?_)
    have h := h x40 ex40
    refine zz_istore_n K [(2, .int x40), (0, .ref (ad 0)), (1, .int v1)] dX8_rollsTruly_18 rfl (by decide) rfl ?_
    refine zz_iconst K dX8_rollsTruly_19 zci_0 ?_
    refine zz_istore_n K [(3, .int (0 : Int32)), (2, .int x40), (0, .ref (ad 0)), (1, .int v1)] dX8_rollsTruly_20 rfl (by decide) rfl ?_
    refine zz_sub [2, 1, 0] [(0, .ref (ad 0)), (2, .int x40), (3, .int (0 : Int32))] rfl ?_
    exact zu8_rollsTruly_21 K hret h
  · have h := (And.right h) c39
    refine zz_iconst K dX8_rollsTruly_12 zci_0 ?_
    exact hret _ _ rfl h _ _ dX8_rollsTruly_13
set_option maxRecDepth 100000 in
theorem zc8_rollsTruly (l : Launch) (D : va_G) (ad : Nat → Nat) (cy : Nat → ClassId) (v1 : Int32) (σ : zz_St) (Qp : Int32 → zz_St → Prop) (h : zq8_rollsTruly v1 σ Qp) : zz_Mi l yX8_rollsTruly wsX8_rollsTruly zrm8_rollsTruly D (tysM cy) (wM ad cy) [] [.ref (ad 0), .int v1] σ Qp :=
  zz_Mi.of zz_nw_nil (wM_ad ad cy) (by decide +kernel) rfl ⟨rfl, rfl⟩ (Nat.le_of_ble_eq_true rfl) (fun p e s m args below meth c A QW K hret => zu8_rollsTruly_0 K  hret h)
theorem zin_X8_lays1_X8 : ∀ w ∈ wsX80, w ∈ wsX8_lays1 := fun w h => List.mem_cons_of_mem _ (List.mem_append_right _ h)
theorem zlk_X8_lays1_1 : Cond.fieldLink RX8 233 "SolidsRolledModel" "placeAhead" "I" ∈ wsX8_lays1 := List.mem_of_getElem? (i := 1) rfl
theorem zlk_X8_lays1_2 : Cond.fieldLink RX8 147 "SolidsRolledModel" "place" "I" ∈ wsX8_lays1 := List.mem_of_getElem? (i := 2) rfl
theorem zlk_X8_lays1_3 : Cond.fieldLink RX8 42 "SolidsRolledModel" "faces" "[I" ∈ wsX8_lays1 := List.mem_of_getElem? (i := 3) rfl
theorem zlk_X8_lays1_4 : Cond.fieldLink RX8 57 "SolidsRolledModel" "facesAhead" "[I" ∈ wsX8_lays1 := List.mem_of_getElem? (i := 4) rfl
abbrev zrm8_lays1 : Room := { frames := 0, cells := 0, slots := 0, locals := 0 }
set_option maxHeartbeats 4000000 in
set_option maxRecDepth 100000 in
theorem zu8_lays1_10 {p : Program} {l : Launch} {e : Env} {s : State} {m : MethodId} {args : Array Value} {below : List Frame} {meth : Method} {c : Code} {Q : State → Prop} {D : va_G} {A : Nat → Prop} {ad : Nat → Nat} {cy : Nat → ClassId} {v1 : Int32} {σ : zz_St} (K : zz_K p s m args c cX8_lays1 2 RX8 wsX8_lays1 D (tysM cy) A (wM ad cy) []) {Qp : zz_St → Prop} (hret : ∀ (σ2 : zz_St), Qp σ2 → ∀ (pc : Nat) (lv : List (Nat × Value)), decode cX8_lays1 pc = .ok (.return_, 1) → zz_G p l e zrm8_lays1 s m args below meth c Q D A (wM ad cy) 2 pc lv [] σ2) (h : zq8_lays1_10 v1 σ Qp) : zz_G p l e zrm8_lays1 s m args below meth c Q D A (wM ad cy) 2 10 [(0, .ref (ad 0)), (1, .int v1)] [] σ := by
  unfold zq8_lays1_10 at h
  obtain ⟨I10, M10, h0, hs⟩ := h
  have key : ∀ (n : Nat) (v1 : Int32) (σ : zz_St), M10 v1 σ < n → I10 v1 σ → zz_G p l e zrm8_lays1 s m args below meth c Q D A (wM ad cy) 2 10 [(0, .ref (ad 0)), (1, .int v1)] [] σ := by
    intro n
    induction n with
    | zero => intro v1 σ hlt; exact absurd hlt (Nat.not_lt_zero _)
    | succ n ih =>
      intro v1 σ hlt hI
      have h := hs v1 σ hI
      have hB10 : ∀ (v1' : Int32) (σ' : zz_St), (fun v1' σ' => I10 v1' σ' ∧ M10 v1' σ' < M10 v1 σ) v1' σ' → zz_G p l e zrm8_lays1 s m args below meth c Q D A (wM ad cy) 2 10 [(0, .ref (ad 0)), (1, .int v1')] [] σ' := fun v1' σ' hz => ih v1' σ' (Nat.lt_of_lt_of_le hz.2 (Nat.le_of_lt_succ hlt)) hz.1
      refine zz_iload_n K 1 dX8_lays1_10 rfl rfl ?_
      refine zz_bipush K dX8_lays1_11 zcb_6 ?_
      refine zz_icmp_ge K 34 dX8_lays1_13 rfl (fun c4 => ?_) (fun c4 => ?_)
      · have h := (And.left h) c4
        exact hret _ h _ _ dX8_lays1_34
      · have h := (And.right h) c4
        refine zz_aload_n K 0 dX8_lays1_16 rfl rfl ?_
        refine zg8_10 K zin_X8_lays1_X8 zlk_X8_lays1_3 dX8_lays1_17 ?_
        refine zz_iload_n K 1 dX8_lays1_20 rfl rfl ?_
        refine zz_aload_n K 0 dX8_lays1_21 rfl rfl ?_
        refine zg8_21 K zin_X8_lays1_X8 zlk_X8_lays1_4 dX8_lays1_22 ?_
        refine zz_iload_n K 1 dX8_lays1_25 rfl rfl ?_
        obtain ⟨hin, h⟩ := h
        refine zz_iaload K 0 (wM_at_21 ad cy σ) rfl hin dX8_lays1_26 ?_
        obtain ⟨hin, h⟩ := h
        refine zz_iastore K 0 (σ2 := zz_A σ 10 (upd ((σ).2.1 10) v1.toNatClampNeg ((σ).2.1 21 v1.toNatClampNeg))) (wM_at_10 ad cy σ) (wM_set_10 ad cy σ _) rfl hin dX8_lays1_27 ?_
        refine zz_nms (fun g5 eg5 => ?_)
        have h := h g5 eg5
        refine zz_iinc K 1 [(1, .int (v1 + (1 : Int32))), (0, .ref (ad 0))] dX8_lays1_28 zci_1 rfl (by decide) rfl ?_
        refine zz_goto K 10 dX8_lays1_31 rfl ?_
        refine zz_sub [1, 0] [(0, .ref (ad 0)), (1, .int (v1 + (1 : Int32)))] rfl ?_
        exact hB10 (v1 + (1 : Int32)) g5 h
  exact key _ v1 σ (Nat.lt_succ_self _) h0
set_option maxHeartbeats 4000000 in
set_option maxRecDepth 100000 in
theorem zu8_lays1_0 {p : Program} {l : Launch} {e : Env} {s : State} {m : MethodId} {args : Array Value} {below : List Frame} {meth : Method} {c : Code} {Q : State → Prop} {D : va_G} {A : Nat → Prop} {ad : Nat → Nat} {cy : Nat → ClassId}  {σ : zz_St} (K : zz_K p s m args c cX8_lays1 2 RX8 wsX8_lays1 D (tysM cy) A (wM ad cy) []) {Qp : zz_St → Prop} (hret : ∀ (σ2 : zz_St), Qp σ2 → ∀ (pc : Nat) (lv : List (Nat × Value)), decode cX8_lays1 pc = .ok (.return_, 1) → zz_G p l e zrm8_lays1 s m args below meth c Q D A (wM ad cy) 2 pc lv [] σ2) (h : zq8_lays1 σ Qp) : zz_G p l e zrm8_lays1 s m args below meth c Q D A (wM ad cy) 2 0 [(0, .ref (ad 0))] [] σ := by
  unfold zq8_lays1 at h
  refine zz_aload_n K 0 dX8_lays1_0 rfl rfl ?_
  refine zz_aload_n K 0 dX8_lays1_1 rfl rfl ?_
  refine zg8_20 K zin_X8_lays1_X8 zlk_X8_lays1_1 dX8_lays1_2 ?_
  refine zp8_8 K zin_X8_lays1_X8 zlk_X8_lays1_2 dX8_lays1_5 ?_
  refine zz_nms (fun g6 eg6 => ?_)
  have h := h g6 eg6
  refine zz_iconst K dX8_lays1_8 zci_0 ?_
  refine zz_istore_n K [(1, .int (0 : Int32)), (0, .ref (ad 0))] dX8_lays1_9 rfl (by decide) rfl ?_
  refine zz_sub [1, 0] [(0, .ref (ad 0)), (1, .int (0 : Int32))] rfl ?_
  exact zu8_lays1_10 K hret h
set_option maxRecDepth 100000 in
theorem zc8_lays1 (l : Launch) (D : va_G) (ad : Nat → Nat) (cy : Nat → ClassId)  (σ : zz_St) (Qp : zz_St → Prop) (h : zq8_lays1 σ Qp) : zz_Mv l yX8_lays1 wsX8_lays1 zrm8_lays1 D (tysM cy) (wM ad cy) [] [.ref (ad 0)] σ Qp :=
  zz_Mv.of zz_nw_nil (wM_ad ad cy) (by decide +kernel) rfl ⟨rfl, rfl⟩ (Nat.le_of_ble_eq_true rfl) (fun p e s m args below meth c A QW K hret => zu8_lays1_0 K  hret h)
theorem zlk_X8_roll_1 : Cond.constantLong RX8 140 (3) ∈ wsX8_roll := List.mem_of_getElem? (i := 1) rfl
theorem zin_X8_roll_X8 : ∀ w ∈ wsX80, w ∈ wsX8_roll := fun w h => List.mem_cons_of_mem _ (List.mem_append_right _ h)
theorem zlk_X8_roll_2 : Cond.fieldLink RX8 38 "SolidsRolledModel" "isThere" "Z" ∈ wsX8_roll := List.mem_of_getElem? (i := 2) rfl
theorem zds_yX8_rollsTruly_v : yX8_rollsTruly.cls = RX8 ∧ yX8_rollsTruly.cls ≠ "java/lang/invoke/MethodHandle" ∧ yX8_rollsTruly.cls ≠ "java/lang/invoke/VarHandle" ∧ (parseMethodDescriptor yX8_rollsTruly.desc).map (fun d => d.parameters.length) = some 1 := by decide +kernel
abbrev zrm8_roll : Room := { frames := 6, cells := 0, slots := 0, locals := 138 }
set_option maxHeartbeats 4000000 in
set_option maxRecDepth 100000 in
theorem zu8_roll_34 {p : Program} {l : Launch} {e : Env} {s : State} {m : MethodId} {args : Array Value} {below : List Frame} {meth : Method} {c : Code} {Q : State → Prop} {D : va_G} {A : Nat → Prop} {ad : Nat → Nat} {cy : Nat → ClassId}  {σ : zz_St} (K : zz_K p s m args c cX8_roll 2 RX8 wsX8_roll D (tysM cy) A (wM ad cy) []) {Qp : Int32 → zz_St → Prop} (hret : ∀ (r : Int32) (σ2 : zz_St), narrow .int (.int r) = .int r → Qp r σ2 → ∀ (pc : Nat) (lv : List (Nat × Value)), decode cX8_roll pc = .ok (.ireturn, 1) → zz_G p l e zrm8_roll s m args below meth c Q D A (wM ad cy) 2 pc lv [.int r] σ2) (h : zq8_roll_34 σ Qp) : zz_G p l e zrm8_roll s m args below meth c Q D A (wM ad cy) 2 34 [(0, .ref (ad 0))] [] σ := by
  unfold zq8_roll_34 at h
  refine zz_aload_n K 0 dX8_roll_34 rfl rfl ?_
  refine zz_bipush K dX8_roll_35 zcb_m3 ?_
  refine zz_callVi K zz_nw_nil [.int (-3 : Int32)] (zc8_no l D ad cy (-3 : Int32) σ _ h) gX8_roll_X8_no rfl ⟨rfl, rfl⟩ zds_yX8_no_v ⟨Nat.le_of_ble_eq_true rfl, Nat.le_of_ble_eq_true rfl⟩ (wM_at_0 ad cy _) rfl rfl rfl rfl (Nat.le_of_ble_eq_true rfl) dX8_roll_37 (fun r12 g13 h => ?_)
  exact hret _ _ rfl h _ _ dX8_roll_40
set_option maxHeartbeats 4000000 in
set_option maxRecDepth 100000 in
theorem zu8_roll_0 {p : Program} {l : Launch} {e : Env} {s : State} {m : MethodId} {args : Array Value} {below : List Frame} {meth : Method} {c : Code} {Q : State → Prop} {D : va_G} {A : Nat → Prop} {ad : Nat → Nat} {cy : Nat → ClassId} {v1 : Int32} {σ : zz_St} (K : zz_K p s m args c cX8_roll 2 RX8 wsX8_roll D (tysM cy) A (wM ad cy) []) {Qp : Int32 → zz_St → Prop} (hret : ∀ (r : Int32) (σ2 : zz_St), narrow .int (.int r) = .int r → Qp r σ2 → ∀ (pc : Nat) (lv : List (Nat × Value)), decode cX8_roll pc = .ok (.ireturn, 1) → zz_G p l e zrm8_roll s m args below meth c Q D A (wM ad cy) 2 pc lv [.int r] σ2) (h : zq8_roll v1 σ Qp) : zz_G p l e zrm8_roll s m args below meth c Q D A (wM ad cy) 2 0 [(0, .ref (ad 0)), (1, .int v1)] [] σ := by
  unfold zq8_roll at h
  refine zz_iload_n K 1 dX8_roll_0 rfl rfl ?_
  refine zz_i2l K dX8_roll_1 ?_
  refine zz_lconst K (v := (0 : Int64)) dX8_roll_2 rfl ?_
  refine zz_ldc2 K zlk_X8_roll_1 dX8_roll_3 ?_
  refine zz_callSi1 K zz_nw_nil [.long (v1.toInt64), .long (0 : Int64), .long (3 : Int64)] (zc8_in l D ad cy (v1.toInt64) (0 : Int64) (3 : Int64) σ _ h) gX8_roll_X8_in rfl ⟨rfl, rfl⟩ zds_yX8_in_s ⟨Nat.le_of_ble_eq_true rfl, Nat.le_of_ble_eq_true rfl⟩ rfl rfl (Nat.le_of_ble_eq_true rfl) dX8_roll_6 (fun r14 h => ?_)
  refine zz_if_ne K 19 dX8_roll_9 rfl (fun c15 => ?_) (fun c15 => ?_)
  · have h := (And.left h) c15
    refine zz_aload_n K 0 dX8_roll_19 rfl rfl ?_
    refine zg8_9 K zin_X8_roll_X8 zlk_X8_roll_2 dX8_roll_20 ?_
    refine zz_if_eq K 34 dX8_roll_23 rfl (fun c16 => ?_) (fun c16 => ?_)
    · have h := (And.left h) c16
      refine zz_sub [0] [(0, .ref (ad 0))] rfl ?_
      exact zu8_roll_34 K hret h
    · have h := (And.right h) c16
      refine zz_aload_n K 0 dX8_roll_26 rfl rfl ?_
      refine zz_iload_n K 1 dX8_roll_27 rfl rfl ?_
      refine zz_callVi K zz_nw_nil [.int v1] (zc8_rollsTruly l D ad cy v1 σ _ h) gX8_roll_X8_rollsTruly rfl ⟨rfl, rfl⟩ zds_yX8_rollsTruly_v ⟨Nat.le_of_ble_eq_true rfl, Nat.le_of_ble_eq_true rfl⟩ (wM_at_0 ad cy _) rfl rfl rfl rfl (Nat.le_of_ble_eq_true rfl) dX8_roll_28 (fun r17 g18 h => ?_)
      refine zz_if_ne K 41 dX8_roll_31 rfl (fun c19 => ?_) (fun c19 => ?_)
      · have h := (And.left h) c19
        refine zz_aload_n K 0 dX8_roll_41 rfl rfl ?_
        refine zz_callVi1 K zz_nw_nil [] (zc8_below l D ad cy  g18 _ h) gX8_roll_X8_below rfl ⟨rfl, rfl⟩ zds_yX8_below_v ⟨Nat.le_of_ble_eq_true rfl, Nat.le_of_ble_eq_true rfl⟩ (wM_at_0 ad cy _) rfl rfl rfl rfl (Nat.le_of_ble_eq_true rfl) dX8_roll_42 (fun r20 h => ?_)
        exact hret _ _ rfl h _ _ dX8_roll_45
      · have h := (And.right h) c19
        refine zz_sub [0] [(0, .ref (ad 0))] rfl ?_
        exact zu8_roll_34 K hret h
  · have h := (And.right h) c15
    refine zz_aload_n K 0 dX8_roll_12 rfl rfl ?_
    refine zz_bipush K dX8_roll_13 zcb_m2 ?_
    refine zz_callVi K zz_nw_nil [.int (-2 : Int32)] (zc8_no l D ad cy (-2 : Int32) σ _ h) gX8_roll_X8_no rfl ⟨rfl, rfl⟩ zds_yX8_no_v ⟨Nat.le_of_ble_eq_true rfl, Nat.le_of_ble_eq_true rfl⟩ (wM_at_0 ad cy _) rfl rfl rfl rfl (Nat.le_of_ble_eq_true rfl) dX8_roll_15 (fun r21 g22 h => ?_)
    exact hret _ _ rfl h _ _ dX8_roll_18
set_option maxRecDepth 100000 in
theorem zc8_roll (l : Launch) (D : va_G) (ad : Nat → Nat) (cy : Nat → ClassId) (v1 : Int32) (σ : zz_St) (Qp : Int32 → zz_St → Prop) (h : zq8_roll v1 σ Qp) : zz_Mi l yX8_roll wsX8_roll zrm8_roll D (tysM cy) (wM ad cy) [] [.ref (ad 0), .int v1] σ Qp :=
  zz_Mi.of zz_nw_nil (wM_ad ad cy) (by decide +kernel) rfl ⟨rfl, rfl⟩ (Nat.le_of_ble_eq_true rfl) (fun p e s m args below meth c A QW K hret => zu8_roll_0 K  hret h)
theorem zin_X8_ways_X8 : ∀ w ∈ wsX80, w ∈ wsX8_ways := fun w h => List.mem_cons_of_mem _ (List.mem_append_right _ h)
theorem zlk_X8_ways_1 : Cond.fieldLink RX8 38 "SolidsRolledModel" "isThere" "Z" ∈ wsX8_ways := List.mem_of_getElem? (i := 1) rfl
theorem zds_yX8_lays1_v : yX8_lays1.cls = RX8 ∧ yX8_lays1.cls ≠ "java/lang/invoke/MethodHandle" ∧ yX8_lays1.cls ≠ "java/lang/invoke/VarHandle" ∧ (parseMethodDescriptor yX8_lays1.desc).map (fun d => d.parameters.length) = some 0 := by decide +kernel
abbrev zrm8_ways : Room := { frames := 5, cells := 0, slots := 0, locals := 114 }
set_option maxHeartbeats 4000000 in
set_option maxRecDepth 100000 in
theorem zu8_ways_45 {p : Program} {l : Launch} {e : Env} {s : State} {m : MethodId} {args : Array Value} {below : List Frame} {meth : Method} {c : Code} {Q : State → Prop} {D : va_G} {A : Nat → Prop} {ad : Nat → Nat} {cy : Nat → ClassId} {v1 : Int32} {v2 : Int32} {σ : zz_St} (K : zz_K p s m args c cX8_ways 3 RX8 wsX8_ways D (tysM cy) A (wM ad cy) []) {Qp : Int32 → zz_St → Prop} (hret : ∀ (r : Int32) (σ2 : zz_St), narrow .int (.int r) = .int r → Qp r σ2 → ∀ (pc : Nat) (lv : List (Nat × Value)), decode cX8_ways pc = .ok (.ireturn, 1) → zz_G p l e zrm8_ways s m args below meth c Q D A (wM ad cy) 3 pc lv [.int r] σ2) {B22 : Int32 → Int32 → zz_St → Prop} (hB22 : ∀ (v1' : Int32) (v2' : Int32) (σ' : zz_St), B22 v1' v2' σ' → zz_G p l e zrm8_ways s m args below meth c Q D A (wM ad cy) 3 22 [(0, .ref (ad 0)), (1, .int v1'), (2, .int v2')] [] σ') (h : zq8_ways_45 v1 v2 σ Qp B22) : zz_G p l e zrm8_ways s m args below meth c Q D A (wM ad cy) 3 45 [(0, .ref (ad 0)), (1, .int v1), (2, .int v2)] [] σ := by
  unfold zq8_ways_45 at h
  refine zz_iinc K 2 [(2, .int (v2 + (1 : Int32))), (0, .ref (ad 0)), (1, .int v1)] dX8_ways_45 zci_1 rfl (by decide) rfl ?_
  refine zz_goto K 22 dX8_ways_48 rfl ?_
  refine zz_sub [1, 2, 0] [(0, .ref (ad 0)), (1, .int v1), (2, .int (v2 + (1 : Int32)))] rfl ?_
  exact hB22 v1 (v2 + (1 : Int32)) σ h
set_option maxHeartbeats 4000000 in
set_option maxRecDepth 100000 in
theorem zu8_ways_22 {p : Program} {l : Launch} {e : Env} {s : State} {m : MethodId} {args : Array Value} {below : List Frame} {meth : Method} {c : Code} {Q : State → Prop} {D : va_G} {A : Nat → Prop} {ad : Nat → Nat} {cy : Nat → ClassId} {v1 : Int32} {v2 : Int32} {σ : zz_St} (K : zz_K p s m args c cX8_ways 3 RX8 wsX8_ways D (tysM cy) A (wM ad cy) []) {Qp : Int32 → zz_St → Prop} (hret : ∀ (r : Int32) (σ2 : zz_St), narrow .int (.int r) = .int r → Qp r σ2 → ∀ (pc : Nat) (lv : List (Nat × Value)), decode cX8_ways pc = .ok (.ireturn, 1) → zz_G p l e zrm8_ways s m args below meth c Q D A (wM ad cy) 3 pc lv [.int r] σ2) (h : zq8_ways_22 v1 v2 σ Qp) : zz_G p l e zrm8_ways s m args below meth c Q D A (wM ad cy) 3 22 [(0, .ref (ad 0)), (1, .int v1), (2, .int v2)] [] σ := by
  unfold zq8_ways_22 at h
  obtain ⟨I22, M22, h0, hs⟩ := h
  have key : ∀ (n : Nat) (v1 : Int32) (v2 : Int32) (σ : zz_St), M22 v1 v2 σ < n → I22 v1 v2 σ → zz_G p l e zrm8_ways s m args below meth c Q D A (wM ad cy) 3 22 [(0, .ref (ad 0)), (1, .int v1), (2, .int v2)] [] σ := by
    intro n
    induction n with
    | zero => intro v1 v2 σ hlt; exact absurd hlt (Nat.not_lt_zero _)
    | succ n ih =>
      intro v1 v2 σ hlt hI
      have h := hs v1 v2 σ hI
      have hB22 : ∀ (v1' : Int32) (v2' : Int32) (σ' : zz_St), (fun v1' v2' σ' => I22 v1' v2' σ' ∧ M22 v1' v2' σ' < M22 v1 v2 σ) v1' v2' σ' → zz_G p l e zrm8_ways s m args below meth c Q D A (wM ad cy) 3 22 [(0, .ref (ad 0)), (1, .int v1'), (2, .int v2')] [] σ' := fun v1' v2' σ' hz => ih v1' v2' σ' (Nat.lt_of_lt_of_le hz.2 (Nat.le_of_lt_succ hlt)) hz.1
      refine zz_iload_n K 2 dX8_ways_22 rfl rfl ?_
      refine zz_iconst K dX8_ways_23 zci_4 ?_
      refine zz_icmp_ge K 51 dX8_ways_24 rfl (fun c11 => ?_) (fun c11 => ?_)
      · have h := (And.left h) c11
        refine zz_iload_n K 1 dX8_ways_51 rfl rfl ?_
        exact hret _ _ rfl h _ _ dX8_ways_52
      · have h := (And.right h) c11
        refine zz_aload_n K 0 dX8_ways_27 rfl rfl ?_
        refine zz_iload_n K 2 dX8_ways_28 rfl rfl ?_
        refine zz_callVi K zz_nw_nil [.int v2] (zc8_rolls l D ad cy v2 σ _ h) gX8_ways_X8_rolls rfl ⟨rfl, rfl⟩ zds_yX8_rolls_v ⟨Nat.le_of_ble_eq_true rfl, Nat.le_of_ble_eq_true rfl⟩ (wM_at_0 ad cy _) rfl rfl rfl rfl (Nat.le_of_ble_eq_true rfl) dX8_ways_29 (fun r12 g13 h => ?_)
        refine zz_if_eq K 45 dX8_ways_32 rfl (fun c14 => ?_) (fun c14 => ?_)
        · have h := (And.left h) c14
          exact zu8_ways_45 K hret hB22 h
        · have h := (And.right h) c14
          refine zz_iload_n K 1 dX8_ways_35 rfl rfl ?_
          refine zz_iconst K dX8_ways_36 zci_1 ?_
          refine zz_iload_n K 2 dX8_ways_37 rfl rfl ?_
          refine zz_ishl K dX8_ways_38 ?_
          refine zz_ior K dX8_ways_39 ?_
          refine zz_nmi (fun x15 ex15 => ?_)
          have h := h x15 ex15
          refine zz_istore_n K [(1, .int x15), (0, .ref (ad 0)), (2, .int v2)] dX8_ways_40 rfl (by decide) rfl ?_
          refine zz_aload_n K 1 dX8_ways_41 rfl rfl ?_
          refine zz_callVv K zz_nw_nil [] (zc8_lays1 l D ad cy  g13 _ h) gX8_ways_X8_lays1 rfl ⟨rfl, rfl⟩ zds_yX8_lays1_v ⟨Nat.le_of_ble_eq_true rfl, Nat.le_of_ble_eq_true rfl⟩ (wM_at_0 ad cy _) rfl rfl rfl rfl (Nat.le_of_ble_eq_true rfl) dX8_ways_42 (fun g16 h => ?_)
          refine zz_sub [1, 0, 2] [(0, .ref (ad 0)), (1, .int x15), (2, .int v2)] rfl ?_
          exact zu8_ways_45 K hret hB22 h
  exact key _ v1 v2 σ (Nat.lt_succ_self _) h0
set_option maxHeartbeats 4000000 in
set_option maxRecDepth 100000 in
theorem zu8_ways_0 {p : Program} {l : Launch} {e : Env} {s : State} {m : MethodId} {args : Array Value} {below : List Frame} {meth : Method} {c : Code} {Q : State → Prop} {D : va_G} {A : Nat → Prop} {ad : Nat → Nat} {cy : Nat → ClassId}  {σ : zz_St} (K : zz_K p s m args c cX8_ways 3 RX8 wsX8_ways D (tysM cy) A (wM ad cy) []) {Qp : Int32 → zz_St → Prop} (hret : ∀ (r : Int32) (σ2 : zz_St), narrow .int (.int r) = .int r → Qp r σ2 → ∀ (pc : Nat) (lv : List (Nat × Value)), decode cX8_ways pc = .ok (.ireturn, 1) → zz_G p l e zrm8_ways s m args below meth c Q D A (wM ad cy) 3 pc lv [.int r] σ2) (h : zq8_ways σ Qp) : zz_G p l e zrm8_ways s m args below meth c Q D A (wM ad cy) 3 0 [(0, .ref (ad 0))] [] σ := by
  unfold zq8_ways at h
  refine zz_aload_n K 0 dX8_ways_0 rfl rfl ?_
  refine zg8_9 K zin_X8_ways_X8 zlk_X8_ways_1 dX8_ways_1 ?_
  refine zz_if_ne K 14 dX8_ways_4 rfl (fun c17 => ?_) (fun c17 => ?_)
  · have h := (And.left h) c17
    refine zz_aload_n K 0 dX8_ways_14 rfl rfl ?_
    refine zz_callVv K zz_nw_nil [] (zc8_keeps1 l D ad cy  σ _ h) gX8_ways_X8_keeps1 rfl ⟨rfl, rfl⟩ zds_yX8_keeps1_v ⟨Nat.le_of_ble_eq_true rfl, Nat.le_of_ble_eq_true rfl⟩ (wM_at_0 ad cy _) rfl rfl rfl rfl (Nat.le_of_ble_eq_true rfl) dX8_ways_15 (fun g18 h => ?_)
    refine zz_iconst K dX8_ways_18 zci_0 ?_
    refine zz_istore_n K [(1, .int (0 : Int32)), (0, .ref (ad 0))] dX8_ways_19 rfl (by decide) rfl ?_
    refine zz_iconst K dX8_ways_20 zci_0 ?_
    refine zz_istore_n K [(2, .int (0 : Int32)), (1, .int (0 : Int32)), (0, .ref (ad 0))] dX8_ways_21 rfl (by decide) rfl ?_
    refine zz_sub [2, 1, 0] [(0, .ref (ad 0)), (1, .int (0 : Int32)), (2, .int (0 : Int32))] rfl ?_
    exact zu8_ways_22 K hret h
  · have h := (And.right h) c17
    refine zz_aload_n K 0 dX8_ways_7 rfl rfl ?_
    refine zz_bipush K dX8_ways_8 zcb_m3 ?_
    refine zz_callVi K zz_nw_nil [.int (-3 : Int32)] (zc8_no l D ad cy (-3 : Int32) σ _ h) gX8_ways_X8_no rfl ⟨rfl, rfl⟩ zds_yX8_no_v ⟨Nat.le_of_ble_eq_true rfl, Nat.le_of_ble_eq_true rfl⟩ (wM_at_0 ad cy _) rfl rfl rfl rfl (Nat.le_of_ble_eq_true rfl) dX8_ways_10 (fun r19 g20 h => ?_)
    exact hret _ _ rfl h _ _ dX8_ways_13
set_option maxRecDepth 100000 in
theorem zc8_ways (l : Launch) (D : va_G) (ad : Nat → Nat) (cy : Nat → ClassId)  (σ : zz_St) (Qp : Int32 → zz_St → Prop) (h : zq8_ways σ Qp) : zz_Mi l yX8_ways wsX8_ways zrm8_ways D (tysM cy) (wM ad cy) [] [.ref (ad 0)] σ Qp :=
  zz_Mi.of zz_nw_nil (wM_ad ad cy) (by decide +kernel) rfl ⟨rfl, rfl⟩ (Nat.le_of_ble_eq_true rfl) (fun p e s m args below meth c A QW K hret => zu8_ways_0 K  hret h)
theorem zcb_117 : (Int8.ofInt (117)).toInt32 = (117 : Int32) := by decide
theorem zcb_114 : (Int8.ofInt (114)).toInt32 = (114 : Int32) := by decide
theorem zcb_100 : (Int8.ofInt (100)).toInt32 = (100 : Int32) := by decide
theorem zcb_108 : (Int8.ofInt (108)).toInt32 = (108 : Int32) := by decide
abbrev zrm8_wayOf : Room := { frames := 0, cells := 0, slots := 0, locals := 0 }
set_option maxHeartbeats 4000000 in
set_option maxRecDepth 100000 in
theorem zu8_wayOf_0 {p : Program} {l : Launch} {e : Env} {s : State} {m : MethodId} {args : Array Value} {below : List Frame} {meth : Method} {c : Code} {Q : State → Prop} {D : va_G} {A : Nat → Prop} {ad : Nat → Nat} {cy : Nat → ClassId} {v0 : Int32} {σ : zz_St} (K : zz_K p s m args c cX8_wayOf 1 RX8 wsX8_wayOf D (tysM cy) A (wM ad cy) []) {Qp : Int32 → Prop} (hret : ∀ (r : Int32), narrow .int (.int r) = .int r → Qp r → ∀ (pc : Nat) (lv : List (Nat × Value)), decode cX8_wayOf pc = .ok (.ireturn, 1) → zz_G p l e zrm8_wayOf s m args below meth c Q D A (wM ad cy) 1 pc lv [.int r] σ) (h : zq8_wayOf v0 Qp) : zz_G p l e zrm8_wayOf s m args below meth c Q D A (wM ad cy) 1 0 [(0, .int v0)] [] σ := by
  unfold zq8_wayOf at h
  refine zz_iload_n K 0 dX8_wayOf_0 rfl rfl ?_
  refine zz_bipush K dX8_wayOf_1 zcb_117 ?_
  refine zz_icmp_ne K 10 dX8_wayOf_3 rfl (fun c5 => ?_) (fun c5 => ?_)
  · have h := (And.left h) c5
    refine zz_iload_n K 0 dX8_wayOf_10 rfl rfl ?_
    refine zz_bipush K dX8_wayOf_11 zcb_114 ?_
    refine zz_icmp_ne K 20 dX8_wayOf_13 rfl (fun c6 => ?_) (fun c6 => ?_)
    · have h := (And.left h) c6
      refine zz_iload_n K 0 dX8_wayOf_20 rfl rfl ?_
      refine zz_bipush K dX8_wayOf_21 zcb_100 ?_
      refine zz_icmp_ne K 30 dX8_wayOf_23 rfl (fun c7 => ?_) (fun c7 => ?_)
      · have h := (And.left h) c7
        refine zz_iload_n K 0 dX8_wayOf_30 rfl rfl ?_
        refine zz_bipush K dX8_wayOf_31 zcb_108 ?_
        refine zz_icmp_ne K 40 dX8_wayOf_33 rfl (fun c8 => ?_) (fun c8 => ?_)
        · have h := (And.left h) c8
          refine zz_iconst K dX8_wayOf_40 zci_m1 ?_
          exact hret _ rfl h _ _ dX8_wayOf_41
        · have h := (And.right h) c8
          refine zz_iconst K dX8_wayOf_36 zci_3 ?_
          refine zz_goto K 41 dX8_wayOf_37 rfl ?_
          exact hret _ rfl h _ _ dX8_wayOf_41
      · have h := (And.right h) c7
        refine zz_iconst K dX8_wayOf_26 zci_2 ?_
        refine zz_goto K 41 dX8_wayOf_27 rfl ?_
        exact hret _ rfl h _ _ dX8_wayOf_41
    · have h := (And.right h) c6
      refine zz_iconst K dX8_wayOf_16 zci_1 ?_
      refine zz_goto K 41 dX8_wayOf_17 rfl ?_
      exact hret _ rfl h _ _ dX8_wayOf_41
  · have h := (And.right h) c5
    refine zz_iconst K dX8_wayOf_6 zci_0 ?_
    refine zz_goto K 41 dX8_wayOf_7 rfl ?_
    exact hret _ rfl h _ _ dX8_wayOf_41
set_option maxRecDepth 100000 in
theorem zc8_wayOf (l : Launch) (D : va_G) (ad : Nat → Nat) (cy : Nat → ClassId) (v0 : Int32) (σ : zz_St) (Qp : Int32 → Prop) (h : zq8_wayOf v0 Qp) : zz_Mi l yX8_wayOf wsX8_wayOf zrm8_wayOf D (tysM cy) (wM ad cy) [] [.int v0] σ (fun r σ2 => σ2 = σ ∧ Qp r) :=
  zz_Mi.of zz_nw_nil (wM_ad ad cy) (by decide +kernel) rfl ⟨rfl, rfl⟩ (Nat.le_of_ble_eq_true rfl) (fun p e s m args below meth c A QW K hret => zu8_wayOf_0 K  (fun r hn hq pc lv hd => hret r σ hn ⟨rfl, hq⟩ pc lv hd) h)
theorem zin_X8_walks_X8 : ∀ w ∈ wsX80, w ∈ wsX8_walks := fun w h => List.mem_cons_of_mem _ (List.mem_append_right _ h)
theorem zlk_X8_walks_1 : Cond.fieldLink RX8 38 "SolidsRolledModel" "isThere" "Z" ∈ wsX8_walks := List.mem_of_getElem? (i := 1) rfl
theorem zlk_X8_walks_2 : Cond.fieldLink RX8 183 "SolidsRolledModel" "lettered" "I" ∈ wsX8_walks := List.mem_of_getElem? (i := 2) rfl
theorem zlk_X8_walks_3 : Cond.fieldLink RX8 51 "SolidsRolledModel" "letters" "[I" ∈ wsX8_walks := List.mem_of_getElem? (i := 3) rfl
theorem zds_yX8_wayOf_s : yX8_wayOf.cls ≠ "java/lang/invoke/MethodHandle" ∧ yX8_wayOf.cls ≠ "java/lang/invoke/VarHandle" ∧ (parseMethodDescriptor yX8_wayOf.desc).map (fun d => d.parameters.length) = some 1 := by decide +kernel
abbrev zrm8_walks : Room := { frames := 6, cells := 0, slots := 0, locals := 138 }
set_option maxHeartbeats 4000000 in
set_option maxRecDepth 100000 in
theorem zu8_walks_16 {p : Program} {l : Launch} {e : Env} {s : State} {m : MethodId} {args : Array Value} {below : List Frame} {meth : Method} {c : Code} {Q : State → Prop} {D : va_G} {A : Nat → Prop} {ad : Nat → Nat} {cy : Nat → ClassId} {v1 : Int32} {σ : zz_St} (K : zz_K p s m args c cX8_walks 2 RX8 wsX8_walks D (tysM cy) A (wM ad cy) []) {Qp : Int32 → zz_St → Prop} (hret : ∀ (r : Int32) (σ2 : zz_St), narrow .int (.int r) = .int r → Qp r σ2 → ∀ (pc : Nat) (lv : List (Nat × Value)), decode cX8_walks pc = .ok (.ireturn, 1) → zz_G p l e zrm8_walks s m args below meth c Q D A (wM ad cy) 2 pc lv [.int r] σ2) (h : zq8_walks_16 v1 σ Qp) : zz_G p l e zrm8_walks s m args below meth c Q D A (wM ad cy) 2 16 [(0, .ref (ad 0)), (1, .int v1)] [] σ := by
  unfold zq8_walks_16 at h
  obtain ⟨I16, M16, h0, hs⟩ := h
  have key : ∀ (n : Nat) (v1 : Int32) (σ : zz_St), M16 v1 σ < n → I16 v1 σ → zz_G p l e zrm8_walks s m args below meth c Q D A (wM ad cy) 2 16 [(0, .ref (ad 0)), (1, .int v1)] [] σ := by
    intro n
    induction n with
    | zero => intro v1 σ hlt; exact absurd hlt (Nat.not_lt_zero _)
    | succ n ih =>
      intro v1 σ hlt hI
      have h := hs v1 σ hI
      have hB16 : ∀ (v1' : Int32) (σ' : zz_St), (fun v1' σ' => I16 v1' σ' ∧ M16 v1' σ' < M16 v1 σ) v1' σ' → zz_G p l e zrm8_walks s m args below meth c Q D A (wM ad cy) 2 16 [(0, .ref (ad 0)), (1, .int v1')] [] σ' := fun v1' σ' hz => ih v1' σ' (Nat.lt_of_lt_of_le hz.2 (Nat.le_of_lt_succ hlt)) hz.1
      refine zz_iload_n K 1 dX8_walks_16 rfl rfl ?_
      refine zz_aload_n K 0 dX8_walks_17 rfl rfl ?_
      refine zg8_15 K zin_X8_walks_X8 zlk_X8_walks_2 dX8_walks_18 ?_
      refine zz_icmp_ge K 58 dX8_walks_21 rfl (fun c14 => ?_) (fun c14 => ?_)
      · have h := (And.left h) c14
        refine zz_aload_n K 0 dX8_walks_58 rfl rfl ?_
        refine zz_iconst K dX8_walks_59 zci_0 ?_
        refine zp8_15 K zin_X8_walks_X8 zlk_X8_walks_2 dX8_walks_60 ?_
        refine zz_nms (fun g15 eg15 => ?_)
        have h := h g15 eg15
        refine zz_iload_n K 1 dX8_walks_63 rfl rfl ?_
        exact hret _ _ rfl h _ _ dX8_walks_64
      · have h := (And.right h) c14
        refine zz_aload_n K 0 dX8_walks_24 rfl rfl ?_
        refine zg8_14 K zin_X8_walks_X8 zlk_X8_walks_3 dX8_walks_25 ?_
        refine zz_iload_n K 1 dX8_walks_28 rfl rfl ?_
        obtain ⟨hin, h⟩ := h
        refine zz_iaload K 0 (wM_at_14 ad cy σ) rfl hin dX8_walks_29 ?_
        refine zz_callSi1 K zz_nw_nil [.int ((σ).2.1 14 v1.toNatClampNeg)] (zc8_wayOf l D ad cy ((σ).2.1 14 v1.toNatClampNeg) σ _ h) gX8_walks_X8_wayOf rfl ⟨rfl, rfl⟩ zds_yX8_wayOf_s ⟨Nat.le_of_ble_eq_true rfl, Nat.le_of_ble_eq_true rfl⟩ rfl rfl (Nat.le_of_ble_eq_true rfl) dX8_walks_30 (fun r16 h => ?_)
        refine zz_if_lt K 58 dX8_walks_33 rfl (fun c17 => ?_) (fun c17 => ?_)
        · have h := (And.left h) c17
          refine zz_aload_n K 0 dX8_walks_58 rfl rfl ?_
          refine zz_iconst K dX8_walks_59 zci_0 ?_
          refine zp8_15 K zin_X8_walks_X8 zlk_X8_walks_2 dX8_walks_60 ?_
          refine zz_nms (fun g18 eg18 => ?_)
          have h := h g18 eg18
          refine zz_iload_n K 1 dX8_walks_63 rfl rfl ?_
          exact hret _ _ rfl h _ _ dX8_walks_64
        · have h := (And.right h) c17
          refine zz_aload_n K 0 dX8_walks_36 rfl rfl ?_
          refine zz_aload_n K 0 dX8_walks_37 rfl rfl ?_
          refine zg8_14 K zin_X8_walks_X8 zlk_X8_walks_3 dX8_walks_38 ?_
          refine zz_iload_n K 1 dX8_walks_41 rfl rfl ?_
          obtain ⟨hin, h⟩ := h
          refine zz_iaload K 0 (wM_at_14 ad cy σ) rfl hin dX8_walks_42 ?_
          refine zz_callSi1 K zz_nw_nil [.int ((σ).2.1 14 v1.toNatClampNeg)] (zc8_wayOf l D ad cy ((σ).2.1 14 v1.toNatClampNeg) σ _ h) gX8_walks_X8_wayOf rfl ⟨rfl, rfl⟩ zds_yX8_wayOf_s ⟨Nat.le_of_ble_eq_true rfl, Nat.le_of_ble_eq_true rfl⟩ rfl rfl (Nat.le_of_ble_eq_true rfl) dX8_walks_43 (fun r19 h => ?_)
          refine zz_callVi K zz_nw_nil [.int r19] (zc8_rollsTruly l D ad cy r19 σ _ h) gX8_walks_X8_rollsTruly rfl ⟨rfl, rfl⟩ zds_yX8_rollsTruly_v ⟨Nat.le_of_ble_eq_true rfl, Nat.le_of_ble_eq_true rfl⟩ (wM_at_0 ad cy _) rfl rfl rfl rfl (Nat.le_of_ble_eq_true rfl) dX8_walks_46 (fun r20 g21 h => ?_)
          refine zz_if_eq K 58 dX8_walks_49 rfl (fun c22 => ?_) (fun c22 => ?_)
          · have h := (And.left h) c22
            refine zz_aload_n K 0 dX8_walks_58 rfl rfl ?_
            refine zz_iconst K dX8_walks_59 zci_0 ?_
            refine zp8_15 K zin_X8_walks_X8 zlk_X8_walks_2 dX8_walks_60 ?_
            refine zz_nms (fun g23 eg23 => ?_)
            have h := h g23 eg23
            refine zz_iload_n K 1 dX8_walks_63 rfl rfl ?_
            exact hret _ _ rfl h _ _ dX8_walks_64
          · have h := (And.right h) c22
            refine zz_iinc K 1 [(1, .int (v1 + (1 : Int32))), (0, .ref (ad 0))] dX8_walks_52 zci_1 rfl (by decide) rfl ?_
            refine zz_goto K 16 dX8_walks_55 rfl ?_
            refine zz_sub [1, 0] [(0, .ref (ad 0)), (1, .int (v1 + (1 : Int32)))] rfl ?_
            exact hB16 (v1 + (1 : Int32)) g21 h
  exact key _ v1 σ (Nat.lt_succ_self _) h0
set_option maxHeartbeats 4000000 in
set_option maxRecDepth 100000 in
theorem zu8_walks_0 {p : Program} {l : Launch} {e : Env} {s : State} {m : MethodId} {args : Array Value} {below : List Frame} {meth : Method} {c : Code} {Q : State → Prop} {D : va_G} {A : Nat → Prop} {ad : Nat → Nat} {cy : Nat → ClassId}  {σ : zz_St} (K : zz_K p s m args c cX8_walks 2 RX8 wsX8_walks D (tysM cy) A (wM ad cy) []) {Qp : Int32 → zz_St → Prop} (hret : ∀ (r : Int32) (σ2 : zz_St), narrow .int (.int r) = .int r → Qp r σ2 → ∀ (pc : Nat) (lv : List (Nat × Value)), decode cX8_walks pc = .ok (.ireturn, 1) → zz_G p l e zrm8_walks s m args below meth c Q D A (wM ad cy) 2 pc lv [.int r] σ2) (h : zq8_walks σ Qp) : zz_G p l e zrm8_walks s m args below meth c Q D A (wM ad cy) 2 0 [(0, .ref (ad 0))] [] σ := by
  unfold zq8_walks at h
  refine zz_aload_n K 0 dX8_walks_0 rfl rfl ?_
  refine zg8_9 K zin_X8_walks_X8 zlk_X8_walks_1 dX8_walks_1 ?_
  refine zz_if_ne K 14 dX8_walks_4 rfl (fun c24 => ?_) (fun c24 => ?_)
  · have h := (And.left h) c24
    refine zz_iconst K dX8_walks_14 zci_0 ?_
    refine zz_istore_n K [(1, .int (0 : Int32)), (0, .ref (ad 0))] dX8_walks_15 rfl (by decide) rfl ?_
    refine zz_sub [1, 0] [(0, .ref (ad 0)), (1, .int (0 : Int32))] rfl ?_
    exact zu8_walks_16 K hret h
  · have h := (And.right h) c24
    refine zz_aload_n K 0 dX8_walks_7 rfl rfl ?_
    refine zz_bipush K dX8_walks_8 zcb_m3 ?_
    refine zz_callVi K zz_nw_nil [.int (-3 : Int32)] (zc8_no l D ad cy (-3 : Int32) σ _ h) gX8_walks_X8_no rfl ⟨rfl, rfl⟩ zds_yX8_no_v ⟨Nat.le_of_ble_eq_true rfl, Nat.le_of_ble_eq_true rfl⟩ (wM_at_0 ad cy _) rfl rfl rfl rfl (Nat.le_of_ble_eq_true rfl) dX8_walks_10 (fun r25 g26 h => ?_)
    exact hret _ _ rfl h _ _ dX8_walks_13
set_option maxRecDepth 100000 in
theorem zc8_walks (l : Launch) (D : va_G) (ad : Nat → Nat) (cy : Nat → ClassId)  (σ : zz_St) (Qp : Int32 → zz_St → Prop) (h : zq8_walks σ Qp) : zz_Mi l yX8_walks wsX8_walks zrm8_walks D (tysM cy) (wM ad cy) [] [.ref (ad 0)] σ Qp :=
  zz_Mi.of zz_nw_nil (wM_ad ad cy) (by decide +kernel) rfl ⟨rfl, rfl⟩ (Nat.le_of_ble_eq_true rfl) (fun p e s m args below meth c A QW K hret => zu8_walks_0 K  hret h)
theorem zin_X8_judge_X8 : ∀ w ∈ wsX80, w ∈ wsX8_judge := fun w h => List.mem_cons_of_mem _ (List.mem_append_right _ h)
theorem zlk_X8_judge_1 : Cond.fieldLink RX8 38 "SolidsRolledModel" "isThere" "Z" ∈ wsX8_judge := List.mem_of_getElem? (i := 1) rfl
theorem zlk_X8_judge_2 : Cond.fieldLink RX8 147 "SolidsRolledModel" "place" "I" ∈ wsX8_judge := List.mem_of_getElem? (i := 2) rfl
theorem zlk_X8_judge_3 : Cond.fieldLink RX8 183 "SolidsRolledModel" "lettered" "I" ∈ wsX8_judge := List.mem_of_getElem? (i := 3) rfl
theorem zlk_X8_judge_4 : Cond.fieldLink RX8 51 "SolidsRolledModel" "letters" "[I" ∈ wsX8_judge := List.mem_of_getElem? (i := 4) rfl
abbrev zrm8_judge : Room := { frames := 5, cells := 0, slots := 0, locals := 114 }
set_option maxHeartbeats 4000000 in
set_option maxRecDepth 100000 in
theorem zu8_judge_67 {p : Program} {l : Launch} {e : Env} {s : State} {m : MethodId} {args : Array Value} {below : List Frame} {meth : Method} {c : Code} {Q : State → Prop} {D : va_G} {A : Nat → Prop} {ad : Nat → Nat} {cy : Nat → ClassId} {v2 : Int32} {σ : zz_St} (K : zz_K p s m args c cX8_judge 3 RX8 wsX8_judge D (tysM cy) A (wM ad cy) []) {Qp : Int32 → zz_St → Prop} (hret : ∀ (r : Int32) (σ2 : zz_St), narrow .int (.int r) = .int r → Qp r σ2 → ∀ (pc : Nat) (lv : List (Nat × Value)), decode cX8_judge pc = .ok (.ireturn, 1) → zz_G p l e zrm8_judge s m args below meth c Q D A (wM ad cy) 3 pc lv [.int r] σ2) (h : zq8_judge_67 v2 σ Qp) : zz_G p l e zrm8_judge s m args below meth c Q D A (wM ad cy) 3 67 [(0, .ref (ad 0)), (2, .int v2)] [] σ := by
  unfold zq8_judge_67 at h
  refine zz_aload_n K 0 dX8_judge_67 rfl rfl ?_
  refine zz_callVv K zz_nw_nil [] (zc8_lays1 l D ad cy  σ _ h) gX8_judge_X8_lays1 rfl ⟨rfl, rfl⟩ zds_yX8_lays1_v ⟨Nat.le_of_ble_eq_true rfl, Nat.le_of_ble_eq_true rfl⟩ (wM_at_0 ad cy _) rfl rfl rfl rfl (Nat.le_of_ble_eq_true rfl) dX8_judge_68 (fun g15 h => ?_)
  refine zz_iload_n K 1 dX8_judge_71 rfl rfl ?_
  refine zz_aload_n K 0 dX8_judge_72 rfl rfl ?_
  refine zg8_15 K zin_X8_judge_X8 zlk_X8_judge_3 dX8_judge_73 ?_
  refine zz_icmp_ge K 83 dX8_judge_76 rfl (fun c16 => ?_) (fun c16 => ?_)
  · have h := (And.left h) c16
    refine zz_bipush K dX8_judge_83 zcb_m9 ?_
    exact hret _ _ rfl h _ _ dX8_judge_85
  · have h := (And.right h) c16
    refine zz_iload_n K 1 dX8_judge_79 rfl rfl ?_
    refine zz_goto K 85 dX8_judge_80 rfl ?_
    exact hret _ _ rfl h _ _ dX8_judge_85
set_option maxHeartbeats 4000000 in
set_option maxRecDepth 100000 in
theorem zu8_judge_25 {p : Program} {l : Launch} {e : Env} {s : State} {m : MethodId} {args : Array Value} {below : List Frame} {meth : Method} {c : Code} {Q : State → Prop} {D : va_G} {A : Nat → Prop} {ad : Nat → Nat} {cy : Nat → ClassId} {v2 : Int32} {σ : zz_St} (K : zz_K p s m args c cX8_judge 3 RX8 wsX8_judge D (tysM cy) A (wM ad cy) []) {Qp : Int32 → zz_St → Prop} (hret : ∀ (r : Int32) (σ2 : zz_St), narrow .int (.int r) = .int r → Qp r σ2 → ∀ (pc : Nat) (lv : List (Nat × Value)), decode cX8_judge pc = .ok (.ireturn, 1) → zz_G p l e zrm8_judge s m args below meth c Q D A (wM ad cy) 3 pc lv [.int r] σ2) (h : zq8_judge_25 v2 σ Qp) : zz_G p l e zrm8_judge s m args below meth c Q D A (wM ad cy) 3 25 [(0, .ref (ad 0)), (2, .int v2)] [] σ := by
  unfold zq8_judge_25 at h
  obtain ⟨I25, M25, h0, hs⟩ := h
  have key : ∀ (n : Nat) (v2 : Int32) (σ : zz_St), M25 v2 σ < n → I25 v2 σ → zz_G p l e zrm8_judge s m args below meth c Q D A (wM ad cy) 3 25 [(0, .ref (ad 0)), (2, .int v2)] [] σ := by
    intro n
    induction n with
    | zero => intro v2 σ hlt; exact absurd hlt (Nat.not_lt_zero _)
    | succ n ih =>
      intro v2 σ hlt hI
      have h := hs v2 σ hI
      have hB25 : ∀ (v2' : Int32) (σ' : zz_St), (fun v2' σ' => I25 v2' σ' ∧ M25 v2' σ' < M25 v2 σ) v2' σ' → zz_G p l e zrm8_judge s m args below meth c Q D A (wM ad cy) 3 25 [(0, .ref (ad 0)), (2, .int v2')] [] σ' := fun v2' σ' hz => ih v2' σ' (Nat.lt_of_lt_of_le hz.2 (Nat.le_of_lt_succ hlt)) hz.1
      refine zz_iload_n K 1 dX8_judge_25 rfl rfl ?_
      refine zz_aload_n K 0 dX8_judge_26 rfl rfl ?_
      refine zg8_15 K zin_X8_judge_X8 zlk_X8_judge_3 dX8_judge_27 ?_
      refine zz_icmp_ge K 67 dX8_judge_30 rfl (fun c17 => ?_) (fun c17 => ?_)
      · have h := (And.left h) c17
        exact zu8_judge_67 K hret h
      · have h := (And.right h) c17
        refine zz_aload_n K 0 dX8_judge_33 rfl rfl ?_
        refine zg8_14 K zin_X8_judge_X8 zlk_X8_judge_4 dX8_judge_34 ?_
        refine zz_iload_n K 1 dX8_judge_37 rfl rfl ?_
        obtain ⟨hin, h⟩ := h
        refine zz_iaload K 0 (wM_at_14 ad cy σ) rfl hin dX8_judge_38 ?_
        refine zz_callSi1 K zz_nw_nil [.int ((σ).2.1 14 v2.toNatClampNeg)] (zc8_wayOf l D ad cy ((σ).2.1 14 v2.toNatClampNeg) σ _ h) gX8_judge_X8_wayOf rfl ⟨rfl, rfl⟩ zds_yX8_wayOf_s ⟨Nat.le_of_ble_eq_true rfl, Nat.le_of_ble_eq_true rfl⟩ rfl rfl (Nat.le_of_ble_eq_true rfl) dX8_judge_39 (fun r18 h => ?_)
        refine zz_if_lt K 67 dX8_judge_42 rfl (fun c19 => ?_) (fun c19 => ?_)
        · have h := (And.left h) c19
          exact zu8_judge_67 K hret h
        · have h := (And.right h) c19
          refine zz_aload_n K 0 dX8_judge_45 rfl rfl ?_
          refine zz_aload_n K 0 dX8_judge_46 rfl rfl ?_
          refine zg8_14 K zin_X8_judge_X8 zlk_X8_judge_4 dX8_judge_47 ?_
          refine zz_iload_n K 1 dX8_judge_50 rfl rfl ?_
          obtain ⟨hin, h⟩ := h
          refine zz_iaload K 0 (wM_at_14 ad cy σ) rfl hin dX8_judge_51 ?_
          refine zz_callSi1 K zz_nw_nil [.int ((σ).2.1 14 v2.toNatClampNeg)] (zc8_wayOf l D ad cy ((σ).2.1 14 v2.toNatClampNeg) σ _ h) gX8_judge_X8_wayOf rfl ⟨rfl, rfl⟩ zds_yX8_wayOf_s ⟨Nat.le_of_ble_eq_true rfl, Nat.le_of_ble_eq_true rfl⟩ rfl rfl (Nat.le_of_ble_eq_true rfl) dX8_judge_52 (fun r20 h => ?_)
          refine zz_callVi K zz_nw_nil [.int r20] (zc8_rolls l D ad cy r20 σ _ h) gX8_judge_X8_rolls rfl ⟨rfl, rfl⟩ zds_yX8_rolls_v ⟨Nat.le_of_ble_eq_true rfl, Nat.le_of_ble_eq_true rfl⟩ (wM_at_0 ad cy _) rfl rfl rfl rfl (Nat.le_of_ble_eq_true rfl) dX8_judge_55 (fun r21 g22 h => ?_)
          refine zz_if_eq K 67 dX8_judge_58 rfl (fun c23 => ?_) (fun c23 => ?_)
          · have h := (And.left h) c23
            exact zu8_judge_67 K hret h
          · have h := (And.right h) c23
            refine zz_iinc K 1 [(2, .int (v2 + (1 : Int32))), (0, .ref (ad 0))] dX8_judge_61 zci_1 rfl (by decide) rfl ?_
            refine zz_goto K 25 dX8_judge_64 rfl ?_
            refine zz_sub [1, 0] [(0, .ref (ad 0)), (2, .int (v2 + (1 : Int32)))] rfl ?_
            exact hB25 (v2 + (1 : Int32)) g22 h
  exact key _ v2 σ (Nat.lt_succ_self _) h0
set_option maxHeartbeats 4000000 in
set_option maxRecDepth 100000 in
theorem zu8_judge_0 {p : Program} {l : Launch} {e : Env} {s : State} {m : MethodId} {args : Array Value} {below : List Frame} {meth : Method} {c : Code} {Q : State → Prop} {D : va_G} {A : Nat → Prop} {ad : Nat → Nat} {cy : Nat → ClassId}  {σ : zz_St} (K : zz_K p s m args c cX8_judge 3 RX8 wsX8_judge D (tysM cy) A (wM ad cy) []) {Qp : Int32 → zz_St → Prop} (hret : ∀ (r : Int32) (σ2 : zz_St), narrow .int (.int r) = .int r → Qp r σ2 → ∀ (pc : Nat) (lv : List (Nat × Value)), decode cX8_judge pc = .ok (.ireturn, 1) → zz_G p l e zrm8_judge s m args below meth c Q D A (wM ad cy) 3 pc lv [.int r] σ2) (h : zq8_judge σ Qp) : zz_G p l e zrm8_judge s m args below meth c Q D A (wM ad cy) 3 0 [(0, .ref (ad 0))] [] σ := by
  unfold zq8_judge at h
  refine zz_aload_n K 0 dX8_judge_0 rfl rfl ?_
  refine zg8_9 K zin_X8_judge_X8 zlk_X8_judge_1 dX8_judge_1 ?_
  refine zz_if_ne K 14 dX8_judge_4 rfl (fun c24 => ?_) (fun c24 => ?_)
  · have h := (And.left h) c24
    refine zz_aload_n K 0 dX8_judge_14 rfl rfl ?_
    refine zz_callVv K zz_nw_nil [] (zc8_keeps1 l D ad cy  σ _ h) gX8_judge_X8_keeps1 rfl ⟨rfl, rfl⟩ zds_yX8_keeps1_v ⟨Nat.le_of_ble_eq_true rfl, Nat.le_of_ble_eq_true rfl⟩ (wM_at_0 ad cy _) rfl rfl rfl rfl (Nat.le_of_ble_eq_true rfl) dX8_judge_15 (fun g25 h => ?_)
    refine zz_aload_n K 0 dX8_judge_18 rfl rfl ?_
    refine zg8_8 K zin_X8_judge_X8 zlk_X8_judge_2 dX8_judge_19 ?_
    refine zz_nmi (fun x26 ex26 => ?_)
    have h := h x26 ex26
    refine zz_istore_n K [(1, .int x26), (0, .ref (ad 0))] dX8_judge_22 rfl (by decide) rfl ?_
    refine zz_iconst K dX8_judge_23 zci_0 ?_
    refine zz_istore_n K [(2, .int (0 : Int32)), (1, .int x26), (0, .ref (ad 0))] dX8_judge_24 rfl (by decide) rfl ?_
    refine zz_sub [2, 0] [(0, .ref (ad 0)), (2, .int (0 : Int32))] rfl ?_
    exact zu8_judge_25 K hret h
  · have h := (And.right h) c24
    refine zz_aload_n K 0 dX8_judge_7 rfl rfl ?_
    refine zz_bipush K dX8_judge_8 zcb_m3 ?_
    refine zz_callVi K zz_nw_nil [.int (-3 : Int32)] (zc8_no l D ad cy (-3 : Int32) σ _ h) gX8_judge_X8_no rfl ⟨rfl, rfl⟩ zds_yX8_no_v ⟨Nat.le_of_ble_eq_true rfl, Nat.le_of_ble_eq_true rfl⟩ (wM_at_0 ad cy _) rfl rfl rfl rfl (Nat.le_of_ble_eq_true rfl) dX8_judge_10 (fun r27 g28 h => ?_)
    exact hret _ _ rfl h _ _ dX8_judge_13
set_option maxRecDepth 100000 in
theorem zc8_judge (l : Launch) (D : va_G) (ad : Nat → Nat) (cy : Nat → ClassId)  (σ : zz_St) (Qp : Int32 → zz_St → Prop) (h : zq8_judge σ Qp) : zz_Mi l yX8_judge wsX8_judge zrm8_judge D (tysM cy) (wM ad cy) [] [.ref (ad 0)] σ Qp :=
  zz_Mi.of zz_nw_nil (wM_ad ad cy) (by decide +kernel) rfl ⟨rfl, rfl⟩ (Nat.le_of_ble_eq_true rfl) (fun p e s m args below meth c A QW K hret => zu8_judge_0 K  hret h)
theorem zin_X8_undo_X8 : ∀ w ∈ wsX80, w ∈ wsX8_undo := fun w h => List.mem_cons_of_mem _ (List.mem_append_right _ h)
theorem zlk_X8_undo_1 : Cond.fieldLink RX8 198 "SolidsRolledModel" "done" "I" ∈ wsX8_undo := List.mem_of_getElem? (i := 1) rfl
theorem zlk_X8_undo_2 : Cond.fieldLink RX8 54 "SolidsRolledModel" "kept" "[I" ∈ wsX8_undo := List.mem_of_getElem? (i := 2) rfl
theorem zlk_X8_undo_3 : Cond.fieldLink RX8 147 "SolidsRolledModel" "place" "I" ∈ wsX8_undo := List.mem_of_getElem? (i := 3) rfl
theorem zlk_X8_undo_4 : Cond.fieldLink RX8 42 "SolidsRolledModel" "faces" "[I" ∈ wsX8_undo := List.mem_of_getElem? (i := 4) rfl
theorem zlk_X8_undo_5 : Cond.fieldLink RX8 32 "SolidsRolledModel" "prints" "[I" ∈ wsX8_undo := List.mem_of_getElem? (i := 5) rfl
abbrev zrm8_undo : Room := { frames := 1, cells := 0, slots := 0, locals := 21 }
set_option maxHeartbeats 4000000 in
set_option maxRecDepth 100000 in
theorem zu8_undo_74 {p : Program} {l : Launch} {e : Env} {s : State} {m : MethodId} {args : Array Value} {below : List Frame} {meth : Method} {c : Code} {Q : State → Prop} {D : va_G} {A : Nat → Prop} {ad : Nat → Nat} {cy : Nat → ClassId} {v1 : Int32} {v2 : Int32} {σ : zz_St} (K : zz_K p s m args c cX8_undo 3 RX8 wsX8_undo D (tysM cy) A (wM ad cy) []) {Qp : Int32 → zz_St → Prop} (hret : ∀ (r : Int32) (σ2 : zz_St), narrow .int (.int r) = .int r → Qp r σ2 → ∀ (pc : Nat) (lv : List (Nat × Value)), decode cX8_undo pc = .ok (.ireturn, 1) → zz_G p l e zrm8_undo s m args below meth c Q D A (wM ad cy) 3 pc lv [.int r] σ2) (h : zq8_undo_74 v1 v2 σ Qp) : zz_G p l e zrm8_undo s m args below meth c Q D A (wM ad cy) 3 74 [(0, .ref (ad 0)), (1, .int v1), (2, .int v2)] [] σ := by
  unfold zq8_undo_74 at h
  obtain ⟨I74, M74, h0, hs⟩ := h
  have key : ∀ (n : Nat) (v2 : Int32) (σ : zz_St), M74 v2 σ < n → I74 v2 σ → zz_G p l e zrm8_undo s m args below meth c Q D A (wM ad cy) 3 74 [(0, .ref (ad 0)), (1, .int v1), (2, .int v2)] [] σ := by
    intro n
    induction n with
    | zero => intro v2 σ hlt; exact absurd hlt (Nat.not_lt_zero _)
    | succ n ih =>
      intro v2 σ hlt hI
      have h := hs v2 σ hI
      have hB74 : ∀ (v2' : Int32) (σ' : zz_St), (fun v2' σ' => I74 v2' σ' ∧ M74 v2' σ' < M74 v2 σ) v2' σ' → zz_G p l e zrm8_undo s m args below meth c Q D A (wM ad cy) 3 74 [(0, .ref (ad 0)), (1, .int v1), (2, .int v2')] [] σ' := fun v2' σ' hz => ih v2' σ' (Nat.lt_of_lt_of_le hz.2 (Nat.le_of_lt_succ hlt)) hz.1
      refine zz_iload_n K 2 dX8_undo_74 rfl rfl ?_
      refine zz_bipush K dX8_undo_75 zcb_36 ?_
      refine zz_icmp_ge K 103 dX8_undo_77 rfl (fun c11 => ?_) (fun c11 => ?_)
      · have h := (And.left h) c11
        refine zz_aload_n K 0 dX8_undo_103 rfl rfl ?_
        refine zg8_19 K zin_X8_undo_X8 zlk_X8_undo_1 dX8_undo_104 ?_
        exact hret _ _ rfl h _ _ dX8_undo_107
      · have h := (And.right h) c11
        refine zz_aload_n K 0 dX8_undo_80 rfl rfl ?_
        refine zg8_5 K zin_X8_undo_X8 zlk_X8_undo_5 dX8_undo_81 ?_
        refine zz_iload_n K 2 dX8_undo_84 rfl rfl ?_
        refine zz_aload_n K 0 dX8_undo_85 rfl rfl ?_
        refine zg8_18 K zin_X8_undo_X8 zlk_X8_undo_2 dX8_undo_86 ?_
        refine zz_iload_n K 1 dX8_undo_89 rfl rfl ?_
        refine zz_bipush K dX8_undo_90 zcb_7 ?_
        refine zz_iadd K dX8_undo_92 ?_
        refine zz_iload_n K 2 dX8_undo_93 rfl rfl ?_
        refine zz_iadd K dX8_undo_94 ?_
        obtain ⟨hin, h⟩ := h
        refine zz_iaload K 0 (wM_at_18 ad cy σ) rfl hin dX8_undo_95 ?_
        obtain ⟨hin, h⟩ := h
        refine zz_iastore K 0 (σ2 := zz_A σ 5 (upd ((σ).2.1 5) v2.toNatClampNeg ((σ).2.1 18 ((v1 + (7 : Int32)) + v2).toNatClampNeg))) (wM_at_5 ad cy σ) (wM_set_5 ad cy σ _) rfl hin dX8_undo_96 ?_
        refine zz_nms (fun g12 eg12 => ?_)
        have h := h g12 eg12
        refine zz_iinc K 2 [(2, .int (v2 + (1 : Int32))), (0, .ref (ad 0)), (1, .int v1)] dX8_undo_97 zci_1 rfl (by decide) rfl ?_
        refine zz_goto K 74 dX8_undo_100 rfl ?_
        refine zz_sub [1, 2, 0] [(0, .ref (ad 0)), (1, .int v1), (2, .int (v2 + (1 : Int32)))] rfl ?_
        exact hB74 (v2 + (1 : Int32)) g12 h
  exact key _ v2 σ (Nat.lt_succ_self _) h0
set_option maxHeartbeats 4000000 in
set_option maxRecDepth 100000 in
theorem zu8_undo_44 {p : Program} {l : Launch} {e : Env} {s : State} {m : MethodId} {args : Array Value} {below : List Frame} {meth : Method} {c : Code} {Q : State → Prop} {D : va_G} {A : Nat → Prop} {ad : Nat → Nat} {cy : Nat → ClassId} {v1 : Int32} {v2 : Int32} {σ : zz_St} (K : zz_K p s m args c cX8_undo 3 RX8 wsX8_undo D (tysM cy) A (wM ad cy) []) {Qp : Int32 → zz_St → Prop} (hret : ∀ (r : Int32) (σ2 : zz_St), narrow .int (.int r) = .int r → Qp r σ2 → ∀ (pc : Nat) (lv : List (Nat × Value)), decode cX8_undo pc = .ok (.ireturn, 1) → zz_G p l e zrm8_undo s m args below meth c Q D A (wM ad cy) 3 pc lv [.int r] σ2) (h : zq8_undo_44 v1 v2 σ Qp) : zz_G p l e zrm8_undo s m args below meth c Q D A (wM ad cy) 3 44 [(0, .ref (ad 0)), (1, .int v1), (2, .int v2)] [] σ := by
  unfold zq8_undo_44 at h
  obtain ⟨I44, M44, h0, hs⟩ := h
  have key : ∀ (n : Nat) (v2 : Int32) (σ : zz_St), M44 v2 σ < n → I44 v2 σ → zz_G p l e zrm8_undo s m args below meth c Q D A (wM ad cy) 3 44 [(0, .ref (ad 0)), (1, .int v1), (2, .int v2)] [] σ := by
    intro n
    induction n with
    | zero => intro v2 σ hlt; exact absurd hlt (Nat.not_lt_zero _)
    | succ n ih =>
      intro v2 σ hlt hI
      have h := hs v2 σ hI
      have hB44 : ∀ (v2' : Int32) (σ' : zz_St), (fun v2' σ' => I44 v2' σ' ∧ M44 v2' σ' < M44 v2 σ) v2' σ' → zz_G p l e zrm8_undo s m args below meth c Q D A (wM ad cy) 3 44 [(0, .ref (ad 0)), (1, .int v1), (2, .int v2')] [] σ' := fun v2' σ' hz => ih v2' σ' (Nat.lt_of_lt_of_le hz.2 (Nat.le_of_lt_succ hlt)) hz.1
      refine zz_iload_n K 2 dX8_undo_44 rfl rfl ?_
      refine zz_bipush K dX8_undo_45 zcb_6 ?_
      refine zz_icmp_ge K 72 dX8_undo_47 rfl (fun c13 => ?_) (fun c13 => ?_)
      · have h := (And.left h) c13
        refine zz_iconst K dX8_undo_72 zci_0 ?_
        refine zz_istore_n K [(2, .int (0 : Int32)), (0, .ref (ad 0)), (1, .int v1)] dX8_undo_73 rfl (by decide) rfl ?_
        refine zz_sub [1, 2, 0] [(0, .ref (ad 0)), (1, .int v1), (2, .int (0 : Int32))] rfl ?_
        exact zu8_undo_74 K hret h
      · have h := (And.right h) c13
        refine zz_aload_n K 0 dX8_undo_50 rfl rfl ?_
        refine zg8_10 K zin_X8_undo_X8 zlk_X8_undo_4 dX8_undo_51 ?_
        refine zz_iload_n K 2 dX8_undo_54 rfl rfl ?_
        refine zz_aload_n K 0 dX8_undo_55 rfl rfl ?_
        refine zg8_18 K zin_X8_undo_X8 zlk_X8_undo_2 dX8_undo_56 ?_
        refine zz_iload_n K 1 dX8_undo_59 rfl rfl ?_
        refine zz_iconst K dX8_undo_60 zci_1 ?_
        refine zz_iadd K dX8_undo_61 ?_
        refine zz_iload_n K 2 dX8_undo_62 rfl rfl ?_
        refine zz_iadd K dX8_undo_63 ?_
        obtain ⟨hin, h⟩ := h
        refine zz_iaload K 0 (wM_at_18 ad cy σ) rfl hin dX8_undo_64 ?_
        obtain ⟨hin, h⟩ := h
        refine zz_iastore K 0 (σ2 := zz_A σ 10 (upd ((σ).2.1 10) v2.toNatClampNeg ((σ).2.1 18 ((v1 + (1 : Int32)) + v2).toNatClampNeg))) (wM_at_10 ad cy σ) (wM_set_10 ad cy σ _) rfl hin dX8_undo_65 ?_
        refine zz_nms (fun g14 eg14 => ?_)
        have h := h g14 eg14
        refine zz_iinc K 2 [(2, .int (v2 + (1 : Int32))), (0, .ref (ad 0)), (1, .int v1)] dX8_undo_66 zci_1 rfl (by decide) rfl ?_
        refine zz_goto K 44 dX8_undo_69 rfl ?_
        refine zz_sub [1, 2, 0] [(0, .ref (ad 0)), (1, .int v1), (2, .int (v2 + (1 : Int32)))] rfl ?_
        exact hB44 (v2 + (1 : Int32)) g14 h
  exact key _ v2 σ (Nat.lt_succ_self _) h0
set_option maxHeartbeats 4000000 in
set_option maxRecDepth 100000 in
theorem zu8_undo_0 {p : Program} {l : Launch} {e : Env} {s : State} {m : MethodId} {args : Array Value} {below : List Frame} {meth : Method} {c : Code} {Q : State → Prop} {D : va_G} {A : Nat → Prop} {ad : Nat → Nat} {cy : Nat → ClassId}  {σ : zz_St} (K : zz_K p s m args c cX8_undo 3 RX8 wsX8_undo D (tysM cy) A (wM ad cy) []) {Qp : Int32 → zz_St → Prop} (hret : ∀ (r : Int32) (σ2 : zz_St), narrow .int (.int r) = .int r → Qp r σ2 → ∀ (pc : Nat) (lv : List (Nat × Value)), decode cX8_undo pc = .ok (.ireturn, 1) → zz_G p l e zrm8_undo s m args below meth c Q D A (wM ad cy) 3 pc lv [.int r] σ2) (h : zq8_undo σ Qp) : zz_G p l e zrm8_undo s m args below meth c Q D A (wM ad cy) 3 0 [(0, .ref (ad 0))] [] σ := by
  unfold zq8_undo at h
  refine zz_aload_n K 0 dX8_undo_0 rfl rfl ?_
  refine zg8_19 K zin_X8_undo_X8 zlk_X8_undo_1 dX8_undo_1 ?_
  refine zz_if_ne K 14 dX8_undo_4 rfl (fun c15 => ?_) (fun c15 => ?_)
  · have h := (And.left h) c15
    refine zz_aload_n K 0 dX8_undo_14 rfl rfl ?_
    refine zz_dup K rfl dX8_undo_15 ?_
    refine zg8_19 K zin_X8_undo_X8 zlk_X8_undo_1 dX8_undo_16 ?_
    refine zz_iconst K dX8_undo_19 zci_1 ?_
    refine zz_isub K dX8_undo_20 ?_
    refine zp8_19 K zin_X8_undo_X8 zlk_X8_undo_1 dX8_undo_21 ?_
    refine zz_nms (fun g16 eg16 => ?_)
    have h := h g16 eg16
    refine zz_bipush K dX8_undo_24 zcb_64 ?_
    refine zz_aload_n K 0 dX8_undo_26 rfl rfl ?_
    refine zg8_19 K zin_X8_undo_X8 zlk_X8_undo_1 dX8_undo_27 ?_
    refine zz_imul K dX8_undo_30 ?_
    refine zz_nmi (fun x17 ex17 => ?_)
    have h := h x17 ex17
    refine zz_istore_n K [(1, .int x17), (0, .ref (ad 0))] dX8_undo_31 rfl (by decide) rfl ?_
    refine zz_aload_n K 1 dX8_undo_32 rfl rfl ?_
    refine zz_aload_n K 1 dX8_undo_33 rfl rfl ?_
    refine zg8_18 K zin_X8_undo_X8 zlk_X8_undo_2 dX8_undo_34 ?_
    refine zz_iload_n K 0 dX8_undo_37 rfl rfl ?_
    obtain ⟨hin, h⟩ := h
    refine zz_iaload K 0 (wM_at_18 ad cy g16) rfl hin dX8_undo_38 ?_
    refine zp8_8 K zin_X8_undo_X8 zlk_X8_undo_3 dX8_undo_39 ?_
    refine zz_nms (fun g18 eg18 => ?_)
    have h := h g18 eg18
    refine zz_iconst K dX8_undo_42 zci_0 ?_
    refine zz_istore_n K [(2, .int (0 : Int32)), (1, .int x17), (0, .ref (ad 0))] dX8_undo_43 rfl (by decide) rfl ?_
    refine zz_sub [2, 1, 0] [(0, .ref (ad 0)), (1, .int x17), (2, .int (0 : Int32))] rfl ?_
    exact zu8_undo_44 K hret h
  · have h := (And.right h) c15
    refine zz_aload_n K 0 dX8_undo_7 rfl rfl ?_
    refine zz_bipush K dX8_undo_8 zcb_m3 ?_
    refine zz_callVi K zz_nw_nil [.int (-3 : Int32)] (zc8_no l D ad cy (-3 : Int32) σ _ h) gX8_undo_X8_no rfl ⟨rfl, rfl⟩ zds_yX8_no_v ⟨Nat.le_of_ble_eq_true rfl, Nat.le_of_ble_eq_true rfl⟩ (wM_at_0 ad cy _) rfl rfl rfl rfl (Nat.le_of_ble_eq_true rfl) dX8_undo_10 (fun r19 g20 h => ?_)
    exact hret _ _ rfl h _ _ dX8_undo_13
set_option maxRecDepth 100000 in
theorem zc8_undo (l : Launch) (D : va_G) (ad : Nat → Nat) (cy : Nat → ClassId)  (σ : zz_St) (Qp : Int32 → zz_St → Prop) (h : zq8_undo σ Qp) : zz_Mi l yX8_undo wsX8_undo zrm8_undo D (tysM cy) (wM ad cy) [] [.ref (ad 0)] σ Qp :=
  zz_Mi.of zz_nw_nil (wM_ad ad cy) (by decide +kernel) rfl ⟨rfl, rfl⟩ (Nat.le_of_ble_eq_true rfl) (fun p e s m args below meth c A QW K hret => zu8_undo_0 K  hret h)
theorem zin_X8_key_X8 : ∀ w ∈ wsX80, w ∈ wsX8_key := fun w h => List.mem_cons_of_mem _ (List.mem_append_right _ h)
theorem zlk_X8_key_1 : Cond.fieldLink RX8 147 "SolidsRolledModel" "place" "I" ∈ wsX8_key := List.mem_of_getElem? (i := 1) rfl
theorem zlk_X8_key_2 : Cond.fieldLink RX8 42 "SolidsRolledModel" "faces" "[I" ∈ wsX8_key := List.mem_of_getElem? (i := 2) rfl
theorem zcb_16 : (Int8.ofInt (16)).toInt32 = (16 : Int32) := by decide
abbrev zrm8_key : Room := { frames := 1, cells := 0, slots := 0, locals := 20 }
set_option maxHeartbeats 4000000 in
set_option maxRecDepth 100000 in
theorem zu8_key_0 {p : Program} {l : Launch} {e : Env} {s : State} {m : MethodId} {args : Array Value} {below : List Frame} {meth : Method} {c : Code} {Q : State → Prop} {D : va_G} {A : Nat → Prop} {ad : Nat → Nat} {cy : Nat → ClassId}  {σ : zz_St} (K : zz_K p s m args c cX8_key 1 RX8 wsX8_key D (tysM cy) A (wM ad cy) []) {Qp : Int32 → Prop} (hret : ∀ (r : Int32), narrow .int (.int r) = .int r → Qp r → ∀ (pc : Nat) (lv : List (Nat × Value)), decode cX8_key pc = .ok (.ireturn, 1) → zz_G p l e zrm8_key s m args below meth c Q D A (wM ad cy) 1 pc lv [.int r] σ) (h : zq8_key σ Qp) : zz_G p l e zrm8_key s m args below meth c Q D A (wM ad cy) 1 0 [(0, .ref (ad 0))] [] σ := by
  unfold zq8_key at h
  refine zz_bipush K dX8_key_0 zcb_64 ?_
  refine zz_aload_n K 0 dX8_key_2 rfl rfl ?_
  refine zg8_8 K zin_X8_key_X8 zlk_X8_key_1 dX8_key_3 ?_
  refine zz_imul K dX8_key_6 ?_
  refine zz_aload_n K 0 dX8_key_7 rfl rfl ?_
  refine zz_callVi1 K zz_nw_nil [] (zc8_isTetra l D ad cy  σ _ h) gX8_key_X8_isTetra rfl ⟨rfl, rfl⟩ zds_yX8_isTetra_v ⟨Nat.le_of_ble_eq_true rfl, Nat.le_of_ble_eq_true rfl⟩ (wM_at_0 ad cy _) rfl rfl rfl rfl (Nat.le_of_ble_eq_true rfl) dX8_key_8 (fun r3 h => ?_)
  refine zz_if_eq K 42 dX8_key_11 rfl (fun c4 => ?_) (fun c4 => ?_)
  · have h := (And.left h) c4
    refine zz_bipush K dX8_key_42 zcb_6 ?_
    refine zz_aload_n K 0 dX8_key_44 rfl rfl ?_
    refine zg8_10 K zin_X8_key_X8 zlk_X8_key_2 dX8_key_45 ?_
    refine zz_iconst K dX8_key_48 zci_1 ?_
    obtain ⟨hin, h⟩ := h
    refine zz_iaload K 0 (wM_at_10 ad cy σ) rfl hin dX8_key_49 ?_
    refine zz_imul K dX8_key_50 ?_
    refine zz_aload_n K 0 dX8_key_51 rfl rfl ?_
    refine zg8_10 K zin_X8_key_X8 zlk_X8_key_2 dX8_key_52 ?_
    refine zz_iconst K dX8_key_55 zci_3 ?_
    obtain ⟨hin, h⟩ := h
    refine zz_iaload K 0 (wM_at_10 ad cy σ) rfl hin dX8_key_56 ?_
    refine zz_iadd K dX8_key_57 ?_
    refine zz_iadd K dX8_key_58 ?_
    exact hret _ rfl h _ _ dX8_key_59
  · have h := (And.right h) c4
    refine zz_bipush K dX8_key_14 zcb_16 ?_
    refine zz_aload_n K 0 dX8_key_16 rfl rfl ?_
    refine zg8_10 K zin_X8_key_X8 zlk_X8_key_2 dX8_key_17 ?_
    refine zz_iconst K dX8_key_20 zci_0 ?_
    obtain ⟨hin, h⟩ := h
    refine zz_iaload K 0 (wM_at_10 ad cy σ) rfl hin dX8_key_21 ?_
    refine zz_imul K dX8_key_22 ?_
    refine zz_iconst K dX8_key_23 zci_4 ?_
    refine zz_aload_n K 0 dX8_key_24 rfl rfl ?_
    refine zg8_10 K zin_X8_key_X8 zlk_X8_key_2 dX8_key_25 ?_
    refine zz_iconst K dX8_key_28 zci_1 ?_
    obtain ⟨hin, h⟩ := h
    refine zz_iaload K 0 (wM_at_10 ad cy σ) rfl hin dX8_key_29 ?_
    refine zz_imul K dX8_key_30 ?_
    refine zz_iadd K dX8_key_31 ?_
    refine zz_aload_n K 0 dX8_key_32 rfl rfl ?_
    refine zg8_10 K zin_X8_key_X8 zlk_X8_key_2 dX8_key_33 ?_
    refine zz_iconst K dX8_key_36 zci_2 ?_
    obtain ⟨hin, h⟩ := h
    refine zz_iaload K 0 (wM_at_10 ad cy σ) rfl hin dX8_key_37 ?_
    refine zz_iadd K dX8_key_38 ?_
    refine zz_goto K 58 dX8_key_39 rfl ?_
    refine zz_iadd K dX8_key_58 ?_
    exact hret _ rfl h _ _ dX8_key_59
set_option maxRecDepth 100000 in
theorem zc8_key (l : Launch) (D : va_G) (ad : Nat → Nat) (cy : Nat → ClassId)  (σ : zz_St) (Qp : Int32 → Prop) (h : zq8_key σ Qp) : zz_Mi l yX8_key wsX8_key zrm8_key D (tysM cy) (wM ad cy) [] [.ref (ad 0)] σ (fun r σ2 => σ2 = σ ∧ Qp r) :=
  zz_Mi.of zz_nw_nil (wM_ad ad cy) (by decide +kernel) rfl ⟨rfl, rfl⟩ (Nat.le_of_ble_eq_true rfl) (fun p e s m args below meth c A QW K hret => zu8_key_0 K  (fun r hn hq pc lv hd => hret r σ hn ⟨rfl, hq⟩ pc lv hd) h)
theorem zin_X8_loads_X8 : ∀ w ∈ wsX80, w ∈ wsX8_loads := fun w h => List.mem_cons_of_mem _ (List.mem_append_right _ h)
theorem zlk_X8_loads_1 : Cond.fieldLink RX8 63 "SolidsRolledModel" "queuePlace" "[I" ∈ wsX8_loads := List.mem_of_getElem? (i := 1) rfl
theorem zlk_X8_loads_2 : Cond.fieldLink RX8 147 "SolidsRolledModel" "place" "I" ∈ wsX8_loads := List.mem_of_getElem? (i := 2) rfl
theorem zlk_X8_loads_3 : Cond.fieldLink RX8 42 "SolidsRolledModel" "faces" "[I" ∈ wsX8_loads := List.mem_of_getElem? (i := 3) rfl
theorem zlk_X8_loads_4 : Cond.fieldLink RX8 66 "SolidsRolledModel" "queueFaces" "[I" ∈ wsX8_loads := List.mem_of_getElem? (i := 4) rfl
abbrev zrm8_loads : Room := { frames := 0, cells := 0, slots := 0, locals := 0 }
set_option maxHeartbeats 4000000 in
set_option maxRecDepth 100000 in
theorem zu8_loads_12 {p : Program} {l : Launch} {e : Env} {s : State} {m : MethodId} {args : Array Value} {below : List Frame} {meth : Method} {c : Code} {Q : State → Prop} {D : va_G} {A : Nat → Prop} {ad : Nat → Nat} {cy : Nat → ClassId} {v1 : Int32} {v2 : Int32} {σ : zz_St} (K : zz_K p s m args c cX8_loads 3 RX8 wsX8_loads D (tysM cy) A (wM ad cy) []) {Qp : zz_St → Prop} (hret : ∀ (σ2 : zz_St), Qp σ2 → ∀ (pc : Nat) (lv : List (Nat × Value)), decode cX8_loads pc = .ok (.return_, 1) → zz_G p l e zrm8_loads s m args below meth c Q D A (wM ad cy) 3 pc lv [] σ2) (h : zq8_loads_12 v1 v2 σ Qp) : zz_G p l e zrm8_loads s m args below meth c Q D A (wM ad cy) 3 12 [(0, .ref (ad 0)), (1, .int v1), (2, .int v2)] [] σ := by
  unfold zq8_loads_12 at h
  obtain ⟨I12, M12, h0, hs⟩ := h
  have key : ∀ (n : Nat) (v2 : Int32) (σ : zz_St), M12 v2 σ < n → I12 v2 σ → zz_G p l e zrm8_loads s m args below meth c Q D A (wM ad cy) 3 12 [(0, .ref (ad 0)), (1, .int v1), (2, .int v2)] [] σ := by
    intro n
    induction n with
    | zero => intro v2 σ hlt; exact absurd hlt (Nat.not_lt_zero _)
    | succ n ih =>
      intro v2 σ hlt hI
      have h := hs v2 σ hI
      have hB12 : ∀ (v2' : Int32) (σ' : zz_St), (fun v2' σ' => I12 v2' σ' ∧ M12 v2' σ' < M12 v2 σ) v2' σ' → zz_G p l e zrm8_loads s m args below meth c Q D A (wM ad cy) 3 12 [(0, .ref (ad 0)), (1, .int v1), (2, .int v2')] [] σ' := fun v2' σ' hz => ih v2' σ' (Nat.lt_of_lt_of_le hz.2 (Nat.le_of_lt_succ hlt)) hz.1
      refine zz_iload_n K 2 dX8_loads_12 rfl rfl ?_
      refine zz_bipush K dX8_loads_13 zcb_6 ?_
      refine zz_icmp_ge K 41 dX8_loads_15 rfl (fun c4 => ?_) (fun c4 => ?_)
      · have h := (And.left h) c4
        exact hret _ h _ _ dX8_loads_41
      · have h := (And.right h) c4
        refine zz_aload_n K 0 dX8_loads_18 rfl rfl ?_
        refine zg8_10 K zin_X8_loads_X8 zlk_X8_loads_3 dX8_loads_19 ?_
        refine zz_iload_n K 2 dX8_loads_22 rfl rfl ?_
        refine zz_aload_n K 0 dX8_loads_23 rfl rfl ?_
        refine zg8_24 K zin_X8_loads_X8 zlk_X8_loads_4 dX8_loads_24 ?_
        refine zz_bipush K dX8_loads_27 zcb_6 ?_
        refine zz_iload_n K 1 dX8_loads_29 rfl rfl ?_
        refine zz_imul K dX8_loads_30 ?_
        refine zz_iload_n K 2 dX8_loads_31 rfl rfl ?_
        refine zz_iadd K dX8_loads_32 ?_
        obtain ⟨hin, h⟩ := h
        refine zz_iaload K 0 (wM_at_24 ad cy σ) rfl hin dX8_loads_33 ?_
        obtain ⟨hin, h⟩ := h
        refine zz_iastore K 0 (σ2 := zz_A σ 10 (upd ((σ).2.1 10) v2.toNatClampNeg ((σ).2.1 24 (((6 : Int32) * v1) + v2).toNatClampNeg))) (wM_at_10 ad cy σ) (wM_set_10 ad cy σ _) rfl hin dX8_loads_34 ?_
        refine zz_nms (fun g5 eg5 => ?_)
        have h := h g5 eg5
        refine zz_iinc K 2 [(2, .int (v2 + (1 : Int32))), (0, .ref (ad 0)), (1, .int v1)] dX8_loads_35 zci_1 rfl (by decide) rfl ?_
        refine zz_goto K 12 dX8_loads_38 rfl ?_
        refine zz_sub [1, 2, 0] [(0, .ref (ad 0)), (1, .int v1), (2, .int (v2 + (1 : Int32)))] rfl ?_
        exact hB12 (v2 + (1 : Int32)) g5 h
  exact key _ v2 σ (Nat.lt_succ_self _) h0
set_option maxHeartbeats 4000000 in
set_option maxRecDepth 100000 in
theorem zu8_loads_0 {p : Program} {l : Launch} {e : Env} {s : State} {m : MethodId} {args : Array Value} {below : List Frame} {meth : Method} {c : Code} {Q : State → Prop} {D : va_G} {A : Nat → Prop} {ad : Nat → Nat} {cy : Nat → ClassId} {v1 : Int32} {σ : zz_St} (K : zz_K p s m args c cX8_loads 3 RX8 wsX8_loads D (tysM cy) A (wM ad cy) []) {Qp : zz_St → Prop} (hret : ∀ (σ2 : zz_St), Qp σ2 → ∀ (pc : Nat) (lv : List (Nat × Value)), decode cX8_loads pc = .ok (.return_, 1) → zz_G p l e zrm8_loads s m args below meth c Q D A (wM ad cy) 3 pc lv [] σ2) (h : zq8_loads v1 σ Qp) : zz_G p l e zrm8_loads s m args below meth c Q D A (wM ad cy) 3 0 [(0, .ref (ad 0)), (1, .int v1)] [] σ := by
  unfold zq8_loads at h
  refine zz_aload_n K 0 dX8_loads_0 rfl rfl ?_
  refine zz_aload_n K 0 dX8_loads_1 rfl rfl ?_
  refine zg8_23 K zin_X8_loads_X8 zlk_X8_loads_1 dX8_loads_2 ?_
  refine zz_iload_n K 1 dX8_loads_5 rfl rfl ?_
  obtain ⟨hin, h⟩ := h
  refine zz_iaload K 0 (wM_at_23 ad cy σ) rfl hin dX8_loads_6 ?_
  refine zp8_8 K zin_X8_loads_X8 zlk_X8_loads_2 dX8_loads_7 ?_
  refine zz_nms (fun g6 eg6 => ?_)
  have h := h g6 eg6
  refine zz_iconst K dX8_loads_10 zci_0 ?_
  refine zz_istore_n K [(2, .int (0 : Int32)), (0, .ref (ad 0)), (1, .int v1)] dX8_loads_11 rfl (by decide) rfl ?_
  refine zz_sub [1, 2, 0] [(0, .ref (ad 0)), (1, .int v1), (2, .int (0 : Int32))] rfl ?_
  exact zu8_loads_12 K hret h
set_option maxRecDepth 100000 in
theorem zc8_loads (l : Launch) (D : va_G) (ad : Nat → Nat) (cy : Nat → ClassId) (v1 : Int32) (σ : zz_St) (Qp : zz_St → Prop) (h : zq8_loads v1 σ Qp) : zz_Mv l yX8_loads wsX8_loads zrm8_loads D (tysM cy) (wM ad cy) [] [.ref (ad 0), .int v1] σ Qp :=
  zz_Mv.of zz_nw_nil (wM_ad ad cy) (by decide +kernel) rfl ⟨rfl, rfl⟩ (Nat.le_of_ble_eq_true rfl) (fun p e s m args below meth c A QW K hret => zu8_loads_0 K  hret h)
theorem zin_X8_found_X8 : ∀ w ∈ wsX80, w ∈ wsX8_found := fun w h => List.mem_cons_of_mem _ (List.mem_append_right _ h)
theorem zlk_X8_found_1 : Cond.fieldLink RX8 60 "SolidsRolledModel" "index" "[I" ∈ wsX8_found := List.mem_of_getElem? (i := 1) rfl
theorem zlk_X8_found_2 : Cond.fieldLink RX8 251 "SolidsRolledModel" "many" "I" ∈ wsX8_found := List.mem_of_getElem? (i := 2) rfl
theorem zlk_X8_found_3 : Cond.fieldLink RX8 63 "SolidsRolledModel" "queuePlace" "[I" ∈ wsX8_found := List.mem_of_getElem? (i := 3) rfl
theorem zlk_X8_found_4 : Cond.fieldLink RX8 147 "SolidsRolledModel" "place" "I" ∈ wsX8_found := List.mem_of_getElem? (i := 4) rfl
theorem zlk_X8_found_7 : Cond.fieldLink RX8 69 "SolidsRolledModel" "far" "[I" ∈ wsX8_found := List.mem_of_getElem? (i := 7) rfl
theorem zlk_X8_found_5 : Cond.fieldLink RX8 66 "SolidsRolledModel" "queueFaces" "[I" ∈ wsX8_found := List.mem_of_getElem? (i := 5) rfl
theorem zlk_X8_found_6 : Cond.fieldLink RX8 42 "SolidsRolledModel" "faces" "[I" ∈ wsX8_found := List.mem_of_getElem? (i := 6) rfl
theorem zds_yX8_key_v : yX8_key.cls = RX8 ∧ yX8_key.cls ≠ "java/lang/invoke/MethodHandle" ∧ yX8_key.cls ≠ "java/lang/invoke/VarHandle" ∧ (parseMethodDescriptor yX8_key.desc).map (fun d => d.parameters.length) = some 0 := by decide +kernel
abbrev zrm8_found : Room := { frames := 2, cells := 0, slots := 0, locals := 40 }
set_option maxHeartbeats 4000000 in
set_option maxRecDepth 100000 in
theorem zu8_found_39 {p : Program} {l : Launch} {e : Env} {s : State} {m : MethodId} {args : Array Value} {below : List Frame} {meth : Method} {c : Code} {Q : State → Prop} {D : va_G} {A : Nat → Prop} {ad : Nat → Nat} {cy : Nat → ClassId} {v1 : Int32} {v2 : Int32} {v3 : Int32} {σ : zz_St} (K : zz_K p s m args c cX8_found 4 RX8 wsX8_found D (tysM cy) A (wM ad cy) []) {Qp : Int32 → zz_St → Prop} (hret : ∀ (r : Int32) (σ2 : zz_St), narrow .int (.int r) = .int r → Qp r σ2 → ∀ (pc : Nat) (lv : List (Nat × Value)), decode cX8_found pc = .ok (.ireturn, 1) → zz_G p l e zrm8_found s m args below meth c Q D A (wM ad cy) 4 pc lv [.int r] σ2) (h : zq8_found_39 v1 v2 v3 σ Qp) : zz_G p l e zrm8_found s m args below meth c Q D A (wM ad cy) 4 39 [(0, .ref (ad 0)), (1, .int v1), (2, .int v2), (3, .int v3)] [] σ := by
  unfold zq8_found_39 at h
  obtain ⟨I39, M39, h0, hs⟩ := h
  have key : ∀ (n : Nat) (v3 : Int32) (σ : zz_St), M39 v3 σ < n → I39 v3 σ → zz_G p l e zrm8_found s m args below meth c Q D A (wM ad cy) 4 39 [(0, .ref (ad 0)), (1, .int v1), (2, .int v2), (3, .int v3)] [] σ := by
    intro n
    induction n with
    | zero => intro v3 σ hlt; exact absurd hlt (Nat.not_lt_zero _)
    | succ n ih =>
      intro v3 σ hlt hI
      have h := hs v3 σ hI
      have hB39 : ∀ (v3' : Int32) (σ' : zz_St), (fun v3' σ' => I39 v3' σ' ∧ M39 v3' σ' < M39 v3 σ) v3' σ' → zz_G p l e zrm8_found s m args below meth c Q D A (wM ad cy) 4 39 [(0, .ref (ad 0)), (1, .int v1), (2, .int v2), (3, .int v3')] [] σ' := fun v3' σ' hz => ih v3' σ' (Nat.lt_of_lt_of_le hz.2 (Nat.le_of_lt_succ hlt)) hz.1
      refine zz_iload_n K 3 dX8_found_39 rfl rfl ?_
      refine zz_bipush K dX8_found_40 zcb_6 ?_
      refine zz_icmp_ge K 71 dX8_found_42 rfl (fun c9 => ?_) (fun c9 => ?_)
      · have h := (And.left h) c9
        refine zz_aload_n K 0 dX8_found_71 rfl rfl ?_
        refine zg8_25 K zin_X8_found_X8 zlk_X8_found_7 dX8_found_72 ?_
        refine zz_aload_n K 0 dX8_found_75 rfl rfl ?_
        refine zg8_27 K zin_X8_found_X8 zlk_X8_found_2 dX8_found_76 ?_
        refine zz_iload_n K 1 dX8_found_79 rfl rfl ?_
        obtain ⟨hin, h⟩ := h
        refine zz_iastore K 0 (σ2 := zz_A σ 25 (upd ((σ).2.1 25) ((σ).1 27).toNatClampNeg v1)) (wM_at_25 ad cy σ) (wM_set_25 ad cy σ _) rfl hin dX8_found_80 ?_
        refine zz_nms (fun g10 eg10 => ?_)
        have h := h g10 eg10
        refine zz_aload_n K 0 dX8_found_81 rfl rfl ?_
        refine zz_dup K rfl dX8_found_82 ?_
        refine zg8_27 K zin_X8_found_X8 zlk_X8_found_2 dX8_found_83 ?_
        refine zz_iconst K dX8_found_86 zci_1 ?_
        refine zz_iadd K dX8_found_87 ?_
        refine zp8_27 K zin_X8_found_X8 zlk_X8_found_2 dX8_found_88 ?_
        refine zz_nms (fun g11 eg11 => ?_)
        have h := h g11 eg11
        refine zz_aload_n K 0 dX8_found_91 rfl rfl ?_
        refine zg8_22 K zin_X8_found_X8 zlk_X8_found_1 dX8_found_92 ?_
        refine zz_iload_n K 2 dX8_found_95 rfl rfl ?_
        obtain ⟨hin, h⟩ := h
        refine zz_iaload K 0 (wM_at_22 ad cy g11) rfl hin dX8_found_96 ?_
        exact hret _ _ rfl h _ _ dX8_found_97
      · have h := (And.right h) c9
        refine zz_aload_n K 0 dX8_found_45 rfl rfl ?_
        refine zg8_24 K zin_X8_found_X8 zlk_X8_found_5 dX8_found_46 ?_
        refine zz_bipush K dX8_found_49 zcb_6 ?_
        refine zz_aload_n K 0 dX8_found_51 rfl rfl ?_
        refine zg8_27 K zin_X8_found_X8 zlk_X8_found_2 dX8_found_52 ?_
        refine zz_imul K dX8_found_55 ?_
        refine zz_iload_n K 3 dX8_found_56 rfl rfl ?_
        refine zz_iadd K dX8_found_57 ?_
        refine zz_aload_n K 0 dX8_found_58 rfl rfl ?_
        refine zg8_10 K zin_X8_found_X8 zlk_X8_found_6 dX8_found_59 ?_
        refine zz_iload_n K 3 dX8_found_62 rfl rfl ?_
        obtain ⟨hin, h⟩ := h
        refine zz_iaload K 0 (wM_at_10 ad cy σ) rfl hin dX8_found_63 ?_
        obtain ⟨hin, h⟩ := h
        refine zz_iastore K 0 (σ2 := zz_A σ 24 (upd ((σ).2.1 24) (((6 : Int32) * ((σ).1 27)) + v3).toNatClampNeg ((σ).2.1 10 v3.toNatClampNeg))) (wM_at_24 ad cy σ) (wM_set_24 ad cy σ _) rfl hin dX8_found_64 ?_
        refine zz_nms (fun g12 eg12 => ?_)
        have h := h g12 eg12
        refine zz_iinc K 3 [(3, .int (v3 + (1 : Int32))), (0, .ref (ad 0)), (1, .int v1), (2, .int v2)] dX8_found_65 zci_1 rfl (by decide) rfl ?_
        refine zz_goto K 39 dX8_found_68 rfl ?_
        refine zz_sub [1, 2, 3, 0] [(0, .ref (ad 0)), (1, .int v1), (2, .int v2), (3, .int (v3 + (1 : Int32)))] rfl ?_
        exact hB39 (v3 + (1 : Int32)) g12 h
  exact key _ v3 σ (Nat.lt_succ_self _) h0
set_option maxHeartbeats 4000000 in
set_option maxRecDepth 100000 in
theorem zu8_found_0 {p : Program} {l : Launch} {e : Env} {s : State} {m : MethodId} {args : Array Value} {below : List Frame} {meth : Method} {c : Code} {Q : State → Prop} {D : va_G} {A : Nat → Prop} {ad : Nat → Nat} {cy : Nat → ClassId} {v1 : Int32} {σ : zz_St} (K : zz_K p s m args c cX8_found 4 RX8 wsX8_found D (tysM cy) A (wM ad cy) []) {Qp : Int32 → zz_St → Prop} (hret : ∀ (r : Int32) (σ2 : zz_St), narrow .int (.int r) = .int r → Qp r σ2 → ∀ (pc : Nat) (lv : List (Nat × Value)), decode cX8_found pc = .ok (.ireturn, 1) → zz_G p l e zrm8_found s m args below meth c Q D A (wM ad cy) 4 pc lv [.int r] σ2) (h : zq8_found v1 σ Qp) : zz_G p l e zrm8_found s m args below meth c Q D A (wM ad cy) 4 0 [(0, .ref (ad 0)), (1, .int v1)] [] σ := by
  unfold zq8_found at h
  refine zz_aload_n K 0 dX8_found_0 rfl rfl ?_
  refine zz_callVi1 K zz_nw_nil [] (zc8_key l D ad cy  σ _ h) gX8_found_X8_key rfl ⟨rfl, rfl⟩ zds_yX8_key_v ⟨Nat.le_of_ble_eq_true rfl, Nat.le_of_ble_eq_true rfl⟩ (wM_at_0 ad cy _) rfl rfl rfl rfl (Nat.le_of_ble_eq_true rfl) dX8_found_1 (fun r13 h => ?_)
  refine zz_istore_n K [(2, .int r13), (0, .ref (ad 0)), (1, .int v1)] dX8_found_4 rfl (by decide) rfl ?_
  refine zz_aload_n K 1 dX8_found_5 rfl rfl ?_
  refine zg8_22 K zin_X8_found_X8 zlk_X8_found_1 dX8_found_6 ?_
  refine zz_iload_n K 0 dX8_found_9 rfl rfl ?_
  obtain ⟨hin, h⟩ := h
  refine zz_iaload K 0 (wM_at_22 ad cy σ) rfl hin dX8_found_10 ?_
  refine zz_if_ge K 91 dX8_found_11 rfl (fun c14 => ?_) (fun c14 => ?_)
  · have h := (And.left h) c14
    refine zz_aload_n K 1 dX8_found_91 rfl rfl ?_
    refine zg8_22 K zin_X8_found_X8 zlk_X8_found_1 dX8_found_92 ?_
    refine zz_iload_n K 0 dX8_found_95 rfl rfl ?_
    obtain ⟨hin, h⟩ := h
    refine zz_iaload K 0 (wM_at_22 ad cy σ) rfl hin dX8_found_96 ?_
    exact hret _ _ rfl h _ _ dX8_found_97
  · have h := (And.right h) c14
    refine zz_aload_n K 1 dX8_found_14 rfl rfl ?_
    refine zg8_22 K zin_X8_found_X8 zlk_X8_found_1 dX8_found_15 ?_
    refine zz_iload_n K 0 dX8_found_18 rfl rfl ?_
    refine zz_aload_n K 1 dX8_found_19 rfl rfl ?_
    refine zg8_27 K zin_X8_found_X8 zlk_X8_found_2 dX8_found_20 ?_
    obtain ⟨hin, h⟩ := h
    refine zz_iastore K 0 (σ2 := zz_A σ 22 (upd ((σ).2.1 22) r13.toNatClampNeg ((σ).1 27))) (wM_at_22 ad cy σ) (wM_set_22 ad cy σ _) rfl hin dX8_found_23 ?_
    refine zz_nms (fun g15 eg15 => ?_)
    have h := h g15 eg15
    refine zz_aload_n K 1 dX8_found_24 rfl rfl ?_
    refine zg8_23 K zin_X8_found_X8 zlk_X8_found_3 dX8_found_25 ?_
    refine zz_aload_n K 1 dX8_found_28 rfl rfl ?_
    refine zg8_27 K zin_X8_found_X8 zlk_X8_found_2 dX8_found_29 ?_
    refine zz_aload_n K 1 dX8_found_32 rfl rfl ?_
    refine zg8_8 K zin_X8_found_X8 zlk_X8_found_4 dX8_found_33 ?_
    obtain ⟨hin, h⟩ := h
    refine zz_iastore K 0 (σ2 := zz_A g15 23 (upd (g15.2.1 23) (g15.1 27).toNatClampNeg (g15.1 8))) (wM_at_23 ad cy g15) (wM_set_23 ad cy g15 _) rfl hin dX8_found_36 ?_
    refine zz_nms (fun g16 eg16 => ?_)
    have h := h g16 eg16
    refine zz_iconst K dX8_found_37 zci_0 ?_
    refine zz_istore_n K [(3, .int (0 : Int32)), (2, .int r13), (0, .ref (ad 0)), (1, .int v1)] dX8_found_38 rfl (by decide) rfl ?_
    refine zz_sub [2, 3, 1, 0] [(0, .ref (ad 0)), (1, .int v1), (2, .int r13), (3, .int (0 : Int32))] rfl ?_
    exact zu8_found_39 K hret h
set_option maxRecDepth 100000 in
theorem zc8_found (l : Launch) (D : va_G) (ad : Nat → Nat) (cy : Nat → ClassId) (v1 : Int32) (σ : zz_St) (Qp : Int32 → zz_St → Prop) (h : zq8_found v1 σ Qp) : zz_Mi l yX8_found wsX8_found zrm8_found D (tysM cy) (wM ad cy) [] [.ref (ad 0), .int v1] σ Qp :=
  zz_Mi.of zz_nw_nil (wM_ad ad cy) (by decide +kernel) rfl ⟨rfl, rfl⟩ (Nat.le_of_ble_eq_true rfl) (fun p e s m args below meth c A QW K hret => zu8_found_0 K  hret h)
theorem zcs_4608 : (Int16.ofInt (4608)).toInt32 = (4608 : Int32) := by decide
theorem zin_X8_goesThrough_X8 : ∀ w ∈ wsX80, w ∈ wsX8_goesThrough := fun w h => List.mem_cons_of_mem _ (List.mem_append_right _ h)
theorem zlk_X8_goesThrough_2 : Cond.fieldLink RX8 251 "SolidsRolledModel" "many" "I" ∈ wsX8_goesThrough := List.mem_of_getElem? (i := 2) rfl
theorem zlk_X8_goesThrough_3 : Cond.fieldLink RX8 254 "SolidsRolledModel" "returns" "I" ∈ wsX8_goesThrough := List.mem_of_getElem? (i := 3) rfl
theorem zlk_X8_goesThrough_1 : Cond.fieldLink RX8 60 "SolidsRolledModel" "index" "[I" ∈ wsX8_goesThrough := List.mem_of_getElem? (i := 1) rfl
theorem zlk_X8_goesThrough_4 : Cond.fieldLink RX8 72 "SolidsRolledModel" "next" "[I" ∈ wsX8_goesThrough := List.mem_of_getElem? (i := 4) rfl
theorem zlk_X8_goesThrough_5 : Cond.fieldLink RX8 69 "SolidsRolledModel" "far" "[I" ∈ wsX8_goesThrough := List.mem_of_getElem? (i := 5) rfl
theorem zds_yX8_found_v : yX8_found.cls = RX8 ∧ yX8_found.cls ≠ "java/lang/invoke/MethodHandle" ∧ yX8_found.cls ≠ "java/lang/invoke/VarHandle" ∧ (parseMethodDescriptor yX8_found.desc).map (fun d => d.parameters.length) = some 1 := by decide +kernel
theorem zds_yX8_loads_v : yX8_loads.cls = RX8 ∧ yX8_loads.cls ≠ "java/lang/invoke/MethodHandle" ∧ yX8_loads.cls ≠ "java/lang/invoke/VarHandle" ∧ (parseMethodDescriptor yX8_loads.desc).map (fun d => d.parameters.length) = some 1 := by decide +kernel
abbrev zrm8_goesThrough : Room := { frames := 5, cells := 0, slots := 0, locals := 114 }
set_option maxHeartbeats 4000000 in
set_option maxRecDepth 100000 in
theorem zu8_goesThrough_132 {p : Program} {l : Launch} {e : Env} {s : State} {m : MethodId} {args : Array Value} {below : List Frame} {meth : Method} {c : Code} {Q : State → Prop} {D : va_G} {A : Nat → Prop} {ad : Nat → Nat} {cy : Nat → ClassId} {v1 : Int32} {v2 : Int32} {v3 : Int32} {σ : zz_St} (K : zz_K p s m args c cX8_goesThrough 4 RX8 wsX8_goesThrough D (tysM cy) A (wM ad cy) []) {Qp : zz_St → Prop} (hret : ∀ (σ2 : zz_St), Qp σ2 → ∀ (pc : Nat) (lv : List (Nat × Value)), decode cX8_goesThrough pc = .ok (.return_, 1) → zz_G p l e zrm8_goesThrough s m args below meth c Q D A (wM ad cy) 4 pc lv [] σ2) {B44 : Int32 → zz_St → Prop} (hB44 : ∀ (v2' : Int32) (σ' : zz_St), B44 v2' σ' → zz_G p l e zrm8_goesThrough s m args below meth c Q D A (wM ad cy) 4 44 [(0, .ref (ad 0)), (1, .int v1), (2, .int v2')] [] σ') {B54 : Int32 → zz_St → Prop} (hB54 : ∀ (v3' : Int32) (σ' : zz_St), B54 v3' σ' → zz_G p l e zrm8_goesThrough s m args below meth c Q D A (wM ad cy) 4 54 [(0, .ref (ad 0)), (1, .int v1), (2, .int v2), (3, .int v3')] [] σ') (h : zq8_goesThrough_132 v1 v2 v3 σ Qp B44 B54) : zz_G p l e zrm8_goesThrough s m args below meth c Q D A (wM ad cy) 4 132 [(0, .ref (ad 0)), (1, .int v1), (2, .int v2), (3, .int v3)] [] σ := by
  unfold zq8_goesThrough_132 at h
  refine zz_iinc K 3 [(3, .int (v3 + (1 : Int32))), (0, .ref (ad 0)), (1, .int v1), (2, .int v2)] dX8_goesThrough_132 zci_1 rfl (by decide) rfl ?_
  refine zz_goto K 54 dX8_goesThrough_135 rfl ?_
  refine zz_sub [1, 2, 3, 0] [(0, .ref (ad 0)), (1, .int v1), (2, .int v2), (3, .int (v3 + (1 : Int32)))] rfl ?_
  exact hB54 (v3 + (1 : Int32)) σ h
set_option maxHeartbeats 4000000 in
set_option maxRecDepth 100000 in
theorem zu8_goesThrough_97 {p : Program} {l : Launch} {e : Env} {s : State} {m : MethodId} {args : Array Value} {below : List Frame} {meth : Method} {c : Code} {Q : State → Prop} {D : va_G} {A : Nat → Prop} {ad : Nat → Nat} {cy : Nat → ClassId} {v1 : Int32} {v2 : Int32} {v3 : Int32} {s0 : Int32} {s1 : Int32} {σ : zz_St} (K : zz_K p s m args c cX8_goesThrough 4 RX8 wsX8_goesThrough D (tysM cy) A (wM ad cy) []) {Qp : zz_St → Prop} (hret : ∀ (σ2 : zz_St), Qp σ2 → ∀ (pc : Nat) (lv : List (Nat × Value)), decode cX8_goesThrough pc = .ok (.return_, 1) → zz_G p l e zrm8_goesThrough s m args below meth c Q D A (wM ad cy) 4 pc lv [] σ2) {B44 : Int32 → zz_St → Prop} (hB44 : ∀ (v2' : Int32) (σ' : zz_St), B44 v2' σ' → zz_G p l e zrm8_goesThrough s m args below meth c Q D A (wM ad cy) 4 44 [(0, .ref (ad 0)), (1, .int v1), (2, .int v2')] [] σ') {B54 : Int32 → zz_St → Prop} (hB54 : ∀ (v3' : Int32) (σ' : zz_St), B54 v3' σ' → zz_G p l e zrm8_goesThrough s m args below meth c Q D A (wM ad cy) 4 54 [(0, .ref (ad 0)), (1, .int v1), (2, .int v2), (3, .int v3')] [] σ') (h : zq8_goesThrough_97 v1 v2 v3 s0 s1 σ Qp B44 B54) : zz_G p l e zrm8_goesThrough s m args below meth c Q D A (wM ad cy) 4 97 [(0, .ref (ad 0)), (1, .int v1), (2, .int v2), (3, .int v3)] [.int s0, .int s1, .ref (ad 26)] σ := by
  unfold zq8_goesThrough_97 at h
  obtain ⟨hin, h⟩ := h
  refine zz_iastore K 0 (σ2 := zz_A σ 26 (upd ((σ).2.1 26) s1.toNatClampNeg s0)) (wM_at_26 ad cy σ) (wM_set_26 ad cy σ _) rfl hin dX8_goesThrough_97 ?_
  refine zz_nms (fun g21 eg21 => ?_)
  have h := h g21 eg21
  refine zz_aload_n K 0 dX8_goesThrough_98 rfl rfl ?_
  refine zg8_26 K zin_X8_goesThrough_X8 zlk_X8_goesThrough_4 dX8_goesThrough_99 ?_
  refine zz_iconst K dX8_goesThrough_102 zci_4 ?_
  refine zz_iload_n K 2 dX8_goesThrough_103 rfl rfl ?_
  refine zz_imul K dX8_goesThrough_104 ?_
  refine zz_iload_n K 3 dX8_goesThrough_105 rfl rfl ?_
  refine zz_iadd K dX8_goesThrough_106 ?_
  obtain ⟨hin, h⟩ := h
  refine zz_iaload K 0 (wM_at_26 ad cy g21) rfl hin dX8_goesThrough_107 ?_
  refine zz_iload_n K 1 dX8_goesThrough_108 rfl rfl ?_
  refine zz_icmp_ne K 132 dX8_goesThrough_109 rfl (fun c22 => ?_) (fun c22 => ?_)
  · have h := (And.left h) c22
    exact zu8_goesThrough_132 K hret hB44 hB54 h
  · have h := (And.right h) c22
    refine zz_aload_n K 0 dX8_goesThrough_112 rfl rfl ?_
    refine zg8_28 K zin_X8_goesThrough_X8 zlk_X8_goesThrough_3 dX8_goesThrough_113 ?_
    refine zz_iconst K dX8_goesThrough_116 zci_m1 ?_
    refine zz_icmp_ne K 132 dX8_goesThrough_117 rfl (fun c23 => ?_) (fun c23 => ?_)
    · have h := (And.left h) c23
      exact zu8_goesThrough_132 K hret hB44 hB54 h
    · have h := (And.right h) c23
      refine zz_aload_n K 0 dX8_goesThrough_120 rfl rfl ?_
      refine zz_aload_n K 0 dX8_goesThrough_121 rfl rfl ?_
      refine zg8_25 K zin_X8_goesThrough_X8 zlk_X8_goesThrough_5 dX8_goesThrough_122 ?_
      refine zz_iload_n K 2 dX8_goesThrough_125 rfl rfl ?_
      obtain ⟨hin, h⟩ := h
      refine zz_iaload K 0 (wM_at_25 ad cy g21) rfl hin dX8_goesThrough_126 ?_
      refine zz_iconst K dX8_goesThrough_127 zci_1 ?_
      refine zz_iadd K dX8_goesThrough_128 ?_
      refine zp8_28 K zin_X8_goesThrough_X8 zlk_X8_goesThrough_3 dX8_goesThrough_129 ?_
      refine zz_nms (fun g24 eg24 => ?_)
      have h := h g24 eg24
      exact zu8_goesThrough_132 K hret hB44 hB54 h
set_option maxHeartbeats 4000000 in
set_option maxRecDepth 100000 in
theorem zu8_goesThrough_54 {p : Program} {l : Launch} {e : Env} {s : State} {m : MethodId} {args : Array Value} {below : List Frame} {meth : Method} {c : Code} {Q : State → Prop} {D : va_G} {A : Nat → Prop} {ad : Nat → Nat} {cy : Nat → ClassId} {v1 : Int32} {v2 : Int32} {v3 : Int32} {σ : zz_St} (K : zz_K p s m args c cX8_goesThrough 4 RX8 wsX8_goesThrough D (tysM cy) A (wM ad cy) []) {Qp : zz_St → Prop} (hret : ∀ (σ2 : zz_St), Qp σ2 → ∀ (pc : Nat) (lv : List (Nat × Value)), decode cX8_goesThrough pc = .ok (.return_, 1) → zz_G p l e zrm8_goesThrough s m args below meth c Q D A (wM ad cy) 4 pc lv [] σ2) {B44 : Int32 → zz_St → Prop} (hB44 : ∀ (v2' : Int32) (σ' : zz_St), B44 v2' σ' → zz_G p l e zrm8_goesThrough s m args below meth c Q D A (wM ad cy) 4 44 [(0, .ref (ad 0)), (1, .int v1), (2, .int v2')] [] σ') (h : zq8_goesThrough_54 v1 v2 v3 σ Qp B44) : zz_G p l e zrm8_goesThrough s m args below meth c Q D A (wM ad cy) 4 54 [(0, .ref (ad 0)), (1, .int v1), (2, .int v2), (3, .int v3)] [] σ := by
  unfold zq8_goesThrough_54 at h
  obtain ⟨I54, M54, h0, hs⟩ := h
  have key : ∀ (n : Nat) (v3 : Int32) (σ : zz_St), M54 v3 σ < n → I54 v3 σ → zz_G p l e zrm8_goesThrough s m args below meth c Q D A (wM ad cy) 4 54 [(0, .ref (ad 0)), (1, .int v1), (2, .int v2), (3, .int v3)] [] σ := by
    intro n
    induction n with
    | zero => intro v3 σ hlt; exact absurd hlt (Nat.not_lt_zero _)
    | succ n ih =>
      intro v3 σ hlt hI
      have h := hs v3 σ hI
      have hB54 : ∀ (v3' : Int32) (σ' : zz_St), (fun v3' σ' => I54 v3' σ' ∧ M54 v3' σ' < M54 v3 σ) v3' σ' → zz_G p l e zrm8_goesThrough s m args below meth c Q D A (wM ad cy) 4 54 [(0, .ref (ad 0)), (1, .int v1), (2, .int v2), (3, .int v3')] [] σ' := fun v3' σ' hz => ih v3' σ' (Nat.lt_of_lt_of_le hz.2 (Nat.le_of_lt_succ hlt)) hz.1
      refine zz_iload_n K 3 dX8_goesThrough_54 rfl rfl ?_
      refine zz_iconst K dX8_goesThrough_55 zci_4 ?_
      refine zz_icmp_ge K 138 dX8_goesThrough_56 rfl (fun c25 => ?_) (fun c25 => ?_)
      · have h := (And.left h) c25
        refine zz_iinc K 2 [(2, .int (v2 + (1 : Int32))), (0, .ref (ad 0)), (1, .int v1), (3, .int v3)] dX8_goesThrough_138 zci_1 rfl (by decide) rfl ?_
        refine zz_goto K 44 dX8_goesThrough_141 rfl ?_
        refine zz_sub [1, 2, 0] [(0, .ref (ad 0)), (1, .int v1), (2, .int (v2 + (1 : Int32)))] rfl ?_
        exact hB44 (v2 + (1 : Int32)) σ h
      · have h := (And.right h) c25
        refine zz_aload_n K 0 dX8_goesThrough_59 rfl rfl ?_
        refine zz_iload_n K 2 dX8_goesThrough_60 rfl rfl ?_
        refine zz_callVv K zz_nw_nil [.int v2] (zc8_loads l D ad cy v2 σ _ h) gX8_goesThrough_X8_loads rfl ⟨rfl, rfl⟩ zds_yX8_loads_v ⟨Nat.le_of_ble_eq_true rfl, Nat.le_of_ble_eq_true rfl⟩ (wM_at_0 ad cy _) rfl rfl rfl rfl (Nat.le_of_ble_eq_true rfl) dX8_goesThrough_61 (fun g26 h => ?_)
        refine zz_aload_n K 0 dX8_goesThrough_64 rfl rfl ?_
        refine zg8_26 K zin_X8_goesThrough_X8 zlk_X8_goesThrough_4 dX8_goesThrough_65 ?_
        refine zz_iconst K dX8_goesThrough_68 zci_4 ?_
        refine zz_iload_n K 2 dX8_goesThrough_69 rfl rfl ?_
        refine zz_imul K dX8_goesThrough_70 ?_
        refine zz_iload_n K 3 dX8_goesThrough_71 rfl rfl ?_
        refine zz_iadd K dX8_goesThrough_72 ?_
        refine zz_aload_n K 0 dX8_goesThrough_73 rfl rfl ?_
        refine zz_iload_n K 3 dX8_goesThrough_74 rfl rfl ?_
        refine zz_callVi K zz_nw_nil [.int v3] (zc8_rolls l D ad cy v3 g26 _ h) gX8_goesThrough_X8_rolls rfl ⟨rfl, rfl⟩ zds_yX8_rolls_v ⟨Nat.le_of_ble_eq_true rfl, Nat.le_of_ble_eq_true rfl⟩ (wM_at_0 ad cy _) rfl rfl rfl rfl (Nat.le_of_ble_eq_true rfl) dX8_goesThrough_75 (fun r27 g28 h => ?_)
        refine zz_if_eq K 96 dX8_goesThrough_78 rfl (fun c29 => ?_) (fun c29 => ?_)
        · have h := (And.left h) c29
          refine zz_iconst K dX8_goesThrough_96 zci_m1 ?_
          exact zu8_goesThrough_97 K hret hB44 hB54 h
        · have h := (And.right h) c29
          refine zz_aload_n K 0 dX8_goesThrough_81 rfl rfl ?_
          refine zz_aload_n K 0 dX8_goesThrough_82 rfl rfl ?_
          refine zg8_25 K zin_X8_goesThrough_X8 zlk_X8_goesThrough_5 dX8_goesThrough_83 ?_
          refine zz_iload_n K 2 dX8_goesThrough_86 rfl rfl ?_
          obtain ⟨hin, h⟩ := h
          refine zz_iaload K 0 (wM_at_25 ad cy g28) rfl hin dX8_goesThrough_87 ?_
          refine zz_iconst K dX8_goesThrough_88 zci_1 ?_
          refine zz_iadd K dX8_goesThrough_89 ?_
          refine zz_callVi K zz_nw_nil [.int ((g28.2.1 25 v2.toNatClampNeg) + (1 : Int32))] (zc8_found l D ad cy ((g28.2.1 25 v2.toNatClampNeg) + (1 : Int32)) g28 _ h) gX8_goesThrough_X8_found rfl ⟨rfl, rfl⟩ zds_yX8_found_v ⟨Nat.le_of_ble_eq_true rfl, Nat.le_of_ble_eq_true rfl⟩ (wM_at_0 ad cy _) rfl rfl rfl rfl (Nat.le_of_ble_eq_true rfl) dX8_goesThrough_90 (fun r30 g31 h => ?_)
          refine zz_goto K 97 dX8_goesThrough_93 rfl ?_
          exact zu8_goesThrough_97 K hret hB44 hB54 h
  exact key _ v3 σ (Nat.lt_succ_self _) h0
set_option maxHeartbeats 4000000 in
set_option maxRecDepth 100000 in
theorem zu8_goesThrough_44 {p : Program} {l : Launch} {e : Env} {s : State} {m : MethodId} {args : Array Value} {below : List Frame} {meth : Method} {c : Code} {Q : State → Prop} {D : va_G} {A : Nat → Prop} {ad : Nat → Nat} {cy : Nat → ClassId} {v1 : Int32} {v2 : Int32} {σ : zz_St} (K : zz_K p s m args c cX8_goesThrough 4 RX8 wsX8_goesThrough D (tysM cy) A (wM ad cy) []) {Qp : zz_St → Prop} (hret : ∀ (σ2 : zz_St), Qp σ2 → ∀ (pc : Nat) (lv : List (Nat × Value)), decode cX8_goesThrough pc = .ok (.return_, 1) → zz_G p l e zrm8_goesThrough s m args below meth c Q D A (wM ad cy) 4 pc lv [] σ2) (h : zq8_goesThrough_44 v1 v2 σ Qp) : zz_G p l e zrm8_goesThrough s m args below meth c Q D A (wM ad cy) 4 44 [(0, .ref (ad 0)), (1, .int v1), (2, .int v2)] [] σ := by
  unfold zq8_goesThrough_44 at h
  obtain ⟨I44, M44, h0, hs⟩ := h
  have key : ∀ (n : Nat) (v2 : Int32) (σ : zz_St), M44 v2 σ < n → I44 v2 σ → zz_G p l e zrm8_goesThrough s m args below meth c Q D A (wM ad cy) 4 44 [(0, .ref (ad 0)), (1, .int v1), (2, .int v2)] [] σ := by
    intro n
    induction n with
    | zero => intro v2 σ hlt; exact absurd hlt (Nat.not_lt_zero _)
    | succ n ih =>
      intro v2 σ hlt hI
      have h := hs v2 σ hI
      have hB44 : ∀ (v2' : Int32) (σ' : zz_St), (fun v2' σ' => I44 v2' σ' ∧ M44 v2' σ' < M44 v2 σ) v2' σ' → zz_G p l e zrm8_goesThrough s m args below meth c Q D A (wM ad cy) 4 44 [(0, .ref (ad 0)), (1, .int v1), (2, .int v2')] [] σ' := fun v2' σ' hz => ih v2' σ' (Nat.lt_of_lt_of_le hz.2 (Nat.le_of_lt_succ hlt)) hz.1
      refine zz_iload_n K 2 dX8_goesThrough_44 rfl rfl ?_
      refine zz_aload_n K 0 dX8_goesThrough_45 rfl rfl ?_
      refine zg8_27 K zin_X8_goesThrough_X8 zlk_X8_goesThrough_2 dX8_goesThrough_46 ?_
      refine zz_icmp_ge K 144 dX8_goesThrough_49 rfl (fun c32 => ?_) (fun c32 => ?_)
      · have h := (And.left h) c32
        refine zz_aload_n K 0 dX8_goesThrough_144 rfl rfl ?_
        refine zz_callVv K zz_nw_nil [] (zc8_lays1 l D ad cy  σ _ h) gX8_goesThrough_X8_lays1 rfl ⟨rfl, rfl⟩ zds_yX8_lays1_v ⟨Nat.le_of_ble_eq_true rfl, Nat.le_of_ble_eq_true rfl⟩ (wM_at_0 ad cy _) rfl rfl rfl rfl (Nat.le_of_ble_eq_true rfl) dX8_goesThrough_145 (fun g33 h => ?_)
        exact hret _ h _ _ dX8_goesThrough_148
      · have h := (And.right h) c32
        refine zz_iconst K dX8_goesThrough_52 zci_0 ?_
        refine zz_istore_n K [(3, .int (0 : Int32)), (0, .ref (ad 0)), (1, .int v1), (2, .int v2)] dX8_goesThrough_53 rfl (by decide) rfl ?_
        refine zz_sub [1, 2, 3, 0] [(0, .ref (ad 0)), (1, .int v1), (2, .int v2), (3, .int (0 : Int32))] rfl ?_
        exact zu8_goesThrough_54 K hret hB44 h
  exact key _ v2 σ (Nat.lt_succ_self _) h0
set_option maxHeartbeats 4000000 in
set_option maxRecDepth 100000 in
theorem zu8_goesThrough_6 {p : Program} {l : Launch} {e : Env} {s : State} {m : MethodId} {args : Array Value} {below : List Frame} {meth : Method} {c : Code} {Q : State → Prop} {D : va_G} {A : Nat → Prop} {ad : Nat → Nat} {cy : Nat → ClassId} {v1 : Int32} {σ : zz_St} (K : zz_K p s m args c cX8_goesThrough 4 RX8 wsX8_goesThrough D (tysM cy) A (wM ad cy) []) {Qp : zz_St → Prop} (hret : ∀ (σ2 : zz_St), Qp σ2 → ∀ (pc : Nat) (lv : List (Nat × Value)), decode cX8_goesThrough pc = .ok (.return_, 1) → zz_G p l e zrm8_goesThrough s m args below meth c Q D A (wM ad cy) 4 pc lv [] σ2) (h : zq8_goesThrough_6 v1 σ Qp) : zz_G p l e zrm8_goesThrough s m args below meth c Q D A (wM ad cy) 4 6 [(0, .ref (ad 0)), (1, .int v1)] [] σ := by
  unfold zq8_goesThrough_6 at h
  obtain ⟨I6, M6, h0, hs⟩ := h
  have key : ∀ (n : Nat) (v1 : Int32) (σ : zz_St), M6 v1 σ < n → I6 v1 σ → zz_G p l e zrm8_goesThrough s m args below meth c Q D A (wM ad cy) 4 6 [(0, .ref (ad 0)), (1, .int v1)] [] σ := by
    intro n
    induction n with
    | zero => intro v1 σ hlt; exact absurd hlt (Nat.not_lt_zero _)
    | succ n ih =>
      intro v1 σ hlt hI
      have h := hs v1 σ hI
      have hB6 : ∀ (v1' : Int32) (σ' : zz_St), (fun v1' σ' => I6 v1' σ' ∧ M6 v1' σ' < M6 v1 σ) v1' σ' → zz_G p l e zrm8_goesThrough s m args below meth c Q D A (wM ad cy) 4 6 [(0, .ref (ad 0)), (1, .int v1')] [] σ' := fun v1' σ' hz => ih v1' σ' (Nat.lt_of_lt_of_le hz.2 (Nat.le_of_lt_succ hlt)) hz.1
      refine zz_iload_n K 1 dX8_goesThrough_6 rfl rfl ?_
      refine zz_sipush K dX8_goesThrough_7 zcs_4608 ?_
      refine zz_icmp_ge K 26 dX8_goesThrough_10 rfl (fun c34 => ?_) (fun c34 => ?_)
      · have h := (And.left h) c34
        refine zz_aload_n K 0 dX8_goesThrough_26 rfl rfl ?_
        refine zz_iconst K dX8_goesThrough_27 zci_0 ?_
        refine zp8_27 K zin_X8_goesThrough_X8 zlk_X8_goesThrough_2 dX8_goesThrough_28 ?_
        refine zz_nms (fun g35 eg35 => ?_)
        have h := h g35 eg35
        refine zz_aload_n K 0 dX8_goesThrough_31 rfl rfl ?_
        refine zz_iconst K dX8_goesThrough_32 zci_m1 ?_
        refine zp8_28 K zin_X8_goesThrough_X8 zlk_X8_goesThrough_3 dX8_goesThrough_33 ?_
        refine zz_nms (fun g36 eg36 => ?_)
        have h := h g36 eg36
        refine zz_aload_n K 0 dX8_goesThrough_36 rfl rfl ?_
        refine zz_iconst K dX8_goesThrough_37 zci_0 ?_
        refine zz_callVi K zz_nw_nil [.int (0 : Int32)] (zc8_found l D ad cy (0 : Int32) g36 _ h) gX8_goesThrough_X8_found rfl ⟨rfl, rfl⟩ zds_yX8_found_v ⟨Nat.le_of_ble_eq_true rfl, Nat.le_of_ble_eq_true rfl⟩ (wM_at_0 ad cy _) rfl rfl rfl rfl (Nat.le_of_ble_eq_true rfl) dX8_goesThrough_38 (fun r37 g38 h => ?_)
        refine zz_istore_n K [(1, .int r37), (0, .ref (ad 0))] dX8_goesThrough_41 rfl (by decide) rfl ?_
        refine zz_iconst K dX8_goesThrough_42 zci_0 ?_
        refine zz_istore_n K [(2, .int (0 : Int32)), (1, .int r37), (0, .ref (ad 0))] dX8_goesThrough_43 rfl (by decide) rfl ?_
        refine zz_sub [2, 1, 0] [(0, .ref (ad 0)), (1, .int r37), (2, .int (0 : Int32))] rfl ?_
        exact zu8_goesThrough_44 K hret h
      · have h := (And.right h) c34
        refine zz_aload_n K 0 dX8_goesThrough_13 rfl rfl ?_
        refine zg8_22 K zin_X8_goesThrough_X8 zlk_X8_goesThrough_1 dX8_goesThrough_14 ?_
        refine zz_iload_n K 1 dX8_goesThrough_17 rfl rfl ?_
        refine zz_iconst K dX8_goesThrough_18 zci_m1 ?_
        obtain ⟨hin, h⟩ := h
        refine zz_iastore K 0 (σ2 := zz_A σ 22 (upd ((σ).2.1 22) v1.toNatClampNeg (-1 : Int32))) (wM_at_22 ad cy σ) (wM_set_22 ad cy σ _) rfl hin dX8_goesThrough_19 ?_
        refine zz_nms (fun g39 eg39 => ?_)
        have h := h g39 eg39
        refine zz_iinc K 1 [(1, .int (v1 + (1 : Int32))), (0, .ref (ad 0))] dX8_goesThrough_20 zci_1 rfl (by decide) rfl ?_
        refine zz_goto K 6 dX8_goesThrough_23 rfl ?_
        refine zz_sub [1, 0] [(0, .ref (ad 0)), (1, .int (v1 + (1 : Int32)))] rfl ?_
        exact hB6 (v1 + (1 : Int32)) g39 h
  exact key _ v1 σ (Nat.lt_succ_self _) h0
set_option maxHeartbeats 4000000 in
set_option maxRecDepth 100000 in
theorem zu8_goesThrough_0 {p : Program} {l : Launch} {e : Env} {s : State} {m : MethodId} {args : Array Value} {below : List Frame} {meth : Method} {c : Code} {Q : State → Prop} {D : va_G} {A : Nat → Prop} {ad : Nat → Nat} {cy : Nat → ClassId}  {σ : zz_St} (K : zz_K p s m args c cX8_goesThrough 4 RX8 wsX8_goesThrough D (tysM cy) A (wM ad cy) []) {Qp : zz_St → Prop} (hret : ∀ (σ2 : zz_St), Qp σ2 → ∀ (pc : Nat) (lv : List (Nat × Value)), decode cX8_goesThrough pc = .ok (.return_, 1) → zz_G p l e zrm8_goesThrough s m args below meth c Q D A (wM ad cy) 4 pc lv [] σ2) (h : zq8_goesThrough σ Qp) : zz_G p l e zrm8_goesThrough s m args below meth c Q D A (wM ad cy) 4 0 [(0, .ref (ad 0))] [] σ := by
  unfold zq8_goesThrough at h
  refine zz_aload_n K 0 dX8_goesThrough_0 rfl rfl ?_
  refine zz_callVv K zz_nw_nil [] (zc8_keeps1 l D ad cy  σ _ h) gX8_goesThrough_X8_keeps1 rfl ⟨rfl, rfl⟩ zds_yX8_keeps1_v ⟨Nat.le_of_ble_eq_true rfl, Nat.le_of_ble_eq_true rfl⟩ (wM_at_0 ad cy _) rfl rfl rfl rfl (Nat.le_of_ble_eq_true rfl) dX8_goesThrough_1 (fun g40 h => ?_)
  refine zz_iconst K dX8_goesThrough_4 zci_0 ?_
  refine zz_istore_n K [(1, .int (0 : Int32)), (0, .ref (ad 0))] dX8_goesThrough_5 rfl (by decide) rfl ?_
  refine zz_sub [1, 0] [(0, .ref (ad 0)), (1, .int (0 : Int32))] rfl ?_
  exact zu8_goesThrough_6 K hret h
set_option maxRecDepth 100000 in
theorem zc8_goesThrough (l : Launch) (D : va_G) (ad : Nat → Nat) (cy : Nat → ClassId)  (σ : zz_St) (Qp : zz_St → Prop) (h : zq8_goesThrough σ Qp) : zz_Mv l yX8_goesThrough wsX8_goesThrough zrm8_goesThrough D (tysM cy) (wM ad cy) [] [.ref (ad 0)] σ Qp :=
  zz_Mv.of zz_nw_nil (wM_ad ad cy) (by decide +kernel) rfl ⟨rfl, rfl⟩ (Nat.le_of_ble_eq_true rfl) (fun p e s m args below meth c A QW K hret => zu8_goesThrough_0 K  hret h)
