theorem zin_X6_rolled_X6 : ∀ w ∈ wsX60, w ∈ wsX6_rolled := fun w h => List.mem_cons_of_mem _ (List.mem_append_left _ (List.mem_append_right _ h))
theorem zlk_X6_rolled_1 : Cond.fieldLink RX6 38 "SolidsRolled$World" "kind" "I" ∈ wsX6_rolled := List.mem_of_getElem? (i := 1) rfl
theorem zlk_X6_rolled_2 : Cond.fieldLink RX6 9 "SolidsRolled$World" "cubes" "LSolidsRolled$Stances;" ∈ wsX6_rolled := List.mem_of_getElem? (i := 2) rfl
theorem zlk_X6_rolled_3 : Cond.fieldLink RX6 35 "SolidsRolled$World" "columns" "I" ∈ wsX6_rolled := List.mem_of_getElem? (i := 3) rfl
theorem zdsC_yX6_mayLie_v : yX6_mayLie.cls = RX6 ∧ yX6_mayLie.cls ≠ "java/lang/invoke/MethodHandle" ∧ yX6_mayLie.cls ≠ "java/lang/invoke/VarHandle" ∧ (parseMethodDescriptor yX6_mayLie.desc).map (fun d => d.parameters.length) = some 3 := by decide +kernel
theorem zdsC_yX6_reach_v : yX6_reach.cls = RX6 ∧ yX6_reach.cls ≠ "java/lang/invoke/MethodHandle" ∧ yX6_reach.cls ≠ "java/lang/invoke/VarHandle" ∧ (parseMethodDescriptor yX6_reach.desc).map (fun d => d.parameters.length) = some 2 := by decide +kernel
theorem zdsC_yX6_rolledTetra_v : yX6_rolledTetra.cls = RX6 ∧ yX6_rolledTetra.cls ≠ "java/lang/invoke/MethodHandle" ∧ yX6_rolledTetra.cls ≠ "java/lang/invoke/VarHandle" ∧ (parseMethodDescriptor yX6_rolledTetra.desc).map (fun d => d.parameters.length) = some 2 := by decide +kernel
theorem zlk_X6_rolled_5 : Cond.initialized RX7 ∈ wsX6_rolled := List.mem_of_getElem? (i := 5) rfl
theorem zlk_X6_rolled_4 : Cond.static yX7_isTetra ∈ wsX6_rolled := List.mem_of_getElem? (i := 4) rfl
abbrev zrm6_rolled : Room := { frames := 2, cells := 0, slots := 0, locals := 50 }
set_option maxHeartbeats 4000000 in
set_option maxRecDepth 100000 in
theorem zu6_rolled_120 {p : Program} {l : Launch} {e : Env} {s : State} {m : MethodId} {args : Array Value} {below : List Frame} {meth : Method} {c : Code} {Q : State → Prop} {D : va_G} {A : Nat → Prop} {ad : Nat → Nat} {cy : Nat → ClassId} {v4 : Int32} {v5 : Int32} {v6 : Int32} {σ : zz_St} (K : zz_K p s m args c cX6_rolled 8 RX6 wsX6_rolled D (tysC cy) A (wC ad cy) nwC) {Qp : Int32 → Prop} (hret : ∀ (r : Int32), narrow .int (.int r) = .int r → Qp r → ∀ (pc : Nat) (lv : List (Nat × Value)), decode cX6_rolled pc = .ok (.ireturn, 1) → zz_G p l e zrm6_rolled s m args below meth c Q D A (wC ad cy) 8 pc lv [.int r] σ) (h : zq6_rolled_120 v4 v5 v6 σ Qp) : zz_G p l e zrm6_rolled s m args below meth c Q D A (wC ad cy) 8 120 [(0, .ref (ad 1)), (4, .int v4), (5, .int v5), (6, .int v6)] [] σ := by
  unfold zq6_rolled_120 at h
  refine zz_aload_n K 0 dX6_rolled_120 rfl rfl ?_
  refine zz_iload K 2 dX6_rolled_121 rfl ?_
  refine zz_iload K 3 dX6_rolled_123 rfl ?_
  refine zz_aload_n K 0 dX6_rolled_125 rfl rfl ?_
  refine zz_iload K 1 dX6_rolled_126 rfl ?_
  refine zz_callVi1 K zz_nwC [.int v4] (zc6_lie l D ad cy v4 σ _  h) gX6_rolled_X6_lie rfl ⟨rfl, rfl⟩ zdsC_yX6_lie_v ⟨Nat.le_of_ble_eq_true rfl, Nat.le_of_ble_eq_true rfl⟩ (wC_at_1 ad cy σ) rfl rfl rfl rfl (Nat.le_of_ble_eq_true rfl) dX6_rolled_128 (fun r19 h => ?_)
  refine zz_callVi1 K zz_nwC [.int v5, .int v6, .int r19] (zc6_mayLie l D ad cy v5 v6 r19 σ _  h) gX6_rolled_X6_mayLie rfl ⟨rfl, rfl⟩ zdsC_yX6_mayLie_v ⟨Nat.le_of_ble_eq_true rfl, Nat.le_of_ble_eq_true rfl⟩ (wC_at_1 ad cy σ) rfl rfl rfl rfl (Nat.le_of_ble_eq_true rfl) dX6_rolled_131 (fun r20 h => ?_)
  refine zz_if_eq K 156 dX6_rolled_134 rfl (fun c21 => ?_) (fun c21 => ?_)
  · have h := (And.left h) c21
    refine zz_iconst K dX6_rolled_156 zcCi_m1 ?_
    exact hret _ rfl h _ _ dX6_rolled_157
  · have h := (And.right h) c21
    refine zz_iload K 2 dX6_rolled_137 rfl ?_
    refine zz_aload_n K 0 dX6_rolled_139 rfl rfl ?_
    refine zg6_5_0 K zin_X6_rolled_X6 zlk_X6_rolled_3 dX6_rolled_140 ?_
    refine zz_imul K dX6_rolled_143 ?_
    refine zz_iload K 3 dX6_rolled_144 rfl ?_
    refine zz_iadd K dX6_rolled_146 ?_
    refine zz_bipush K dX6_rolled_147 zcCb_24 ?_
    refine zz_imul K dX6_rolled_149 ?_
    refine zz_iload K 1 dX6_rolled_150 rfl ?_
    refine zz_iadd K dX6_rolled_152 ?_
    refine zz_goto K 157 dX6_rolled_153 rfl ?_
    exact hret _ rfl h _ _ dX6_rolled_157
set_option maxHeartbeats 4000000 in
set_option maxRecDepth 100000 in
theorem zu6_rolled_96 {p : Program} {l : Launch} {e : Env} {s : State} {m : MethodId} {args : Array Value} {below : List Frame} {meth : Method} {c : Code} {Q : State → Prop} {D : va_G} {A : Nat → Prop} {ad : Nat → Nat} {cy : Nat → ClassId} {v4 : Int32} {v6 : Int32} {s0 : Int32} {s1 : Int32} {σ : zz_St} (K : zz_K p s m args c cX6_rolled 8 RX6 wsX6_rolled D (tysC cy) A (wC ad cy) nwC) {Qp : Int32 → Prop} (hret : ∀ (r : Int32), narrow .int (.int r) = .int r → Qp r → ∀ (pc : Nat) (lv : List (Nat × Value)), decode cX6_rolled pc = .ok (.ireturn, 1) → zz_G p l e zrm6_rolled s m args below meth c Q D A (wC ad cy) 8 pc lv [.int r] σ) (h : zq6_rolled_96 v4 v6 s0 s1 σ Qp) : zz_G p l e zrm6_rolled s m args below meth c Q D A (wC ad cy) 8 96 [(0, .ref (ad 1)), (4, .int v4), (6, .int v6)] [.int s0, .int s1] σ := by
  unfold zq6_rolled_96 at h
  refine zz_iadd K dX6_rolled_96 ?_
  refine zz_nmi (fun x22 ex22 => ?_)
  have h := h x22 ex22
  refine zz_istore K [(5, .int x22), (0, .ref (ad 1)), (4, .int v4), (6, .int v6)] dX6_rolled_97 (by decide) rfl ?_
  refine zz_goto K 120 dX6_rolled_99 rfl ?_
  refine zz_sub [1, 2, 0, 3] [(0, .ref (ad 1)), (4, .int v4), (5, .int x22), (6, .int v6)] rfl ?_
  exact zu6_rolled_120 K hret h
set_option maxHeartbeats 4000000 in
set_option maxRecDepth 100000 in
theorem zu6_rolled_81 {p : Program} {l : Launch} {e : Env} {s : State} {m : MethodId} {args : Array Value} {below : List Frame} {meth : Method} {c : Code} {Q : State → Prop} {D : va_G} {A : Nat → Prop} {ad : Nat → Nat} {cy : Nat → ClassId} {v2 : Int32} {v4 : Int32} {v5 : Int32} {v6 : Int32} {v7 : Int32} {σ : zz_St} (K : zz_K p s m args c cX6_rolled 8 RX6 wsX6_rolled D (tysC cy) A (wC ad cy) nwC) {Qp : Int32 → Prop} (hret : ∀ (r : Int32), narrow .int (.int r) = .int r → Qp r → ∀ (pc : Nat) (lv : List (Nat × Value)), decode cX6_rolled pc = .ok (.ireturn, 1) → zz_G p l e zrm6_rolled s m args below meth c Q D A (wC ad cy) 8 pc lv [.int r] σ) (h : zq6_rolled_81 v2 v4 v5 v6 v7 σ Qp) : zz_G p l e zrm6_rolled s m args below meth c Q D A (wC ad cy) 8 81 [(0, .ref (ad 1)), (2, .int v2), (4, .int v4), (5, .int v5), (6, .int v6), (7, .int v7)] [] σ := by
  unfold zq6_rolled_81 at h
  refine zz_iload K 3 dX6_rolled_81 rfl ?_
  refine zz_iload_n K 1 dX6_rolled_83 rfl rfl ?_
  refine zz_iconst K dX6_rolled_84 zcCi_2 ?_
  refine zz_icmp_ne K 93 dX6_rolled_85 rfl (fun c23 => ?_) (fun c23 => ?_)
  · have h := (And.left h) c23
    refine zz_iload K 5 dX6_rolled_93 rfl ?_
    refine zz_ineg K dX6_rolled_95 ?_
    refine zz_sub [0, 2, 4] [(0, .ref (ad 1)), (4, .int v4), (6, .int v6)] rfl ?_
    exact zu6_rolled_96 K hret h
  · have h := (And.right h) c23
    refine zz_iload K 5 dX6_rolled_88 rfl ?_
    refine zz_goto K 96 dX6_rolled_90 rfl ?_
    refine zz_sub [0, 2, 4] [(0, .ref (ad 1)), (4, .int v4), (6, .int v6)] rfl ?_
    exact zu6_rolled_96 K hret h
set_option maxHeartbeats 4000000 in
set_option maxRecDepth 100000 in
theorem zu6_rolled_117 {p : Program} {l : Launch} {e : Env} {s : State} {m : MethodId} {args : Array Value} {below : List Frame} {meth : Method} {c : Code} {Q : State → Prop} {D : va_G} {A : Nat → Prop} {ad : Nat → Nat} {cy : Nat → ClassId} {v4 : Int32} {v5 : Int32} {s0 : Int32} {s1 : Int32} {σ : zz_St} (K : zz_K p s m args c cX6_rolled 8 RX6 wsX6_rolled D (tysC cy) A (wC ad cy) nwC) {Qp : Int32 → Prop} (hret : ∀ (r : Int32), narrow .int (.int r) = .int r → Qp r → ∀ (pc : Nat) (lv : List (Nat × Value)), decode cX6_rolled pc = .ok (.ireturn, 1) → zz_G p l e zrm6_rolled s m args below meth c Q D A (wC ad cy) 8 pc lv [.int r] σ) (h : zq6_rolled_117 v4 v5 s0 s1 σ Qp) : zz_G p l e zrm6_rolled s m args below meth c Q D A (wC ad cy) 8 117 [(0, .ref (ad 1)), (4, .int v4), (5, .int v5)] [.int s0, .int s1] σ := by
  unfold zq6_rolled_117 at h
  refine zz_iadd K dX6_rolled_117 ?_
  refine zz_nmi (fun x24 ex24 => ?_)
  have h := h x24 ex24
  refine zz_istore K [(6, .int x24), (0, .ref (ad 1)), (4, .int v4), (5, .int v5)] dX6_rolled_118 (by decide) rfl ?_
  refine zz_sub [1, 2, 3, 0] [(0, .ref (ad 1)), (4, .int v4), (5, .int v5), (6, .int x24)] rfl ?_
  exact zu6_rolled_120 K hret h
set_option maxHeartbeats 4000000 in
set_option maxRecDepth 100000 in
theorem zu6_rolled_0 {p : Program} {l : Launch} {e : Env} {s : State} {m : MethodId} {args : Array Value} {below : List Frame} {meth : Method} {c : Code} {Q : State → Prop} {D : va_G} {A : Nat → Prop} {ad : Nat → Nat} {cy : Nat → ClassId} {v1 : Int32} {v2 : Int32} {σ : zz_St} (K : zz_K p s m args c cX6_rolled 8 RX6 wsX6_rolled D (tysC cy) A (wC ad cy) nwC) {Qp : Int32 → Prop} (hret : ∀ (r : Int32), narrow .int (.int r) = .int r → Qp r → ∀ (pc : Nat) (lv : List (Nat × Value)), decode cX6_rolled pc = .ok (.ireturn, 1) → zz_G p l e zrm6_rolled s m args below meth c Q D A (wC ad cy) 8 pc lv [.int r] σ) (h : zq6_rolled v1 v2 σ Qp) : zz_G p l e zrm6_rolled s m args below meth c Q D A (wC ad cy) 8 0 [(0, .ref (ad 1)), (1, .int v1), (2, .int v2)] [] σ := by
  unfold zq6_rolled at h
  refine zz_aload_n K 0 dX6_rolled_0 rfl rfl ?_
  refine zg6_6_0 K zin_X6_rolled_X6 zlk_X6_rolled_1 dX6_rolled_1 ?_
  refine zz_callNi1 K zz_nwC [.int ((σ).1 6)] (zc7_isTetra l D ad cy ((σ).1 6) σ _  h) ggX6_rolled_X7_isTetra rfl ⟨rfl, rfl⟩ zdsC_yX7_isTetra_s ⟨Nat.le_of_ble_eq_true rfl, Nat.le_of_ble_eq_true rfl⟩ (List.mem_of_getElem? (i := 0) rfl) zlk_X6_rolled_5 zlk_X6_rolled_4 rfl rfl (Nat.le_of_ble_eq_true rfl) dX6_rolled_4 (fun r25 h => ?_)
  refine zz_if_eq K 17 dX6_rolled_7 rfl (fun c26 => ?_) (fun c26 => ?_)
  · have h := (And.left h) c26
    refine zz_iload_n K 1 dX6_rolled_17 rfl rfl ?_
    refine zz_bipush K dX6_rolled_18 zcCb_24 ?_
    refine zz_idiv K (by decide : ¬ (24 : Int32) = 0) dX6_rolled_20 ?_
    refine zz_nmi (fun x27 ex27 => ?_)
    have h := h x27 ex27
    refine zz_istore_n K [(3, .int x27), (0, .ref (ad 1)), (1, .int v1), (2, .int v2)] dX6_rolled_21 rfl (by decide) rfl ?_
    refine zz_aload_n K 1 dX6_rolled_22 rfl rfl ?_
    refine zg6_0_0 K zin_X6_rolled_X6 zlk_X6_rolled_2 dX6_rolled_23 ?_
    refine zz_iload_n K 2 dX6_rolled_26 rfl rfl ?_
    refine zz_bipush K dX6_rolled_27 zcCb_24 ?_
    refine zz_irem K (by decide : ¬ (24 : Int32) = 0) dX6_rolled_29 ?_
    refine zz_iload_n K 3 dX6_rolled_30 rfl rfl ?_
    refine zz_callVi1 K zz_nwC [.int (v1 - v1 / (24 : Int32) * (24 : Int32)), .int v2] (zc5_turnedTo l D ad cy (v1 - v1 / (24 : Int32) * (24 : Int32)) v2 (0) σ _ (by decide) h) gX6_rolled_X5_turnedTo rfl ⟨rfl, rfl⟩ zdsC_yX5_turnedTo_v ⟨Nat.le_of_ble_eq_true rfl, Nat.le_of_ble_eq_true rfl⟩ (wC_at_6 ad cy σ) rfl rfl rfl rfl (Nat.le_of_ble_eq_true rfl) dX6_rolled_31 (fun r28 h => ?_)
    refine zz_istore K [(4, .int r28), (3, .int x27), (0, .ref (ad 1)), (1, .int v1), (2, .int v2)] dX6_rolled_34 (by decide) rfl ?_
    refine zz_iload_n K 1 dX6_rolled_36 rfl rfl ?_
    refine zz_aload_n K 2 dX6_rolled_37 rfl rfl ?_
    refine zg6_5_0 K zin_X6_rolled_X6 zlk_X6_rolled_3 dX6_rolled_38 ?_
    refine zz_callSi1 K zz_nwC [.int x27, .int ((σ).1 4)] (zc6_rowOf l D ad cy x27 ((σ).1 4) σ _  h) gX6_rolled_X6_rowOf rfl ⟨rfl, rfl⟩ zdsC_yX6_rowOf_s ⟨Nat.le_of_ble_eq_true rfl, Nat.le_of_ble_eq_true rfl⟩ rfl rfl (Nat.le_of_ble_eq_true rfl) dX6_rolled_41 (fun r29 h => ?_)
    refine zz_istore K [(5, .int r29), (4, .int r28), (3, .int x27), (0, .ref (ad 1)), (1, .int v1), (2, .int v2)] dX6_rolled_44 (by decide) rfl ?_
    refine zz_iload_n K 2 dX6_rolled_46 rfl rfl ?_
    refine zz_iload K 0 dX6_rolled_47 rfl ?_
    refine zz_aload_n K 3 dX6_rolled_49 rfl rfl ?_
    refine zg6_5_0 K zin_X6_rolled_X6 zlk_X6_rolled_3 dX6_rolled_50 ?_
    refine zz_imul K dX6_rolled_53 ?_
    refine zz_isub K dX6_rolled_54 ?_
    refine zz_nmi (fun x30 ex30 => ?_)
    have h := h x30 ex30
    refine zz_istore K [(6, .int x30), (5, .int r29), (4, .int r28), (3, .int x27), (0, .ref (ad 1)), (1, .int v1), (2, .int v2)] dX6_rolled_55 (by decide) rfl ?_
    refine zz_aload_n K 4 dX6_rolled_57 rfl rfl ?_
    refine zz_aload_n K 4 dX6_rolled_58 rfl rfl ?_
    refine zz_iload_n K 5 dX6_rolled_59 rfl rfl ?_
    refine zz_bipush K dX6_rolled_60 zcCb_24 ?_
    refine zz_irem K (by decide : ¬ (24 : Int32) = 0) dX6_rolled_62 ?_
    refine zz_callVi1 K zz_nwC [.int (v1 - v1 / (24 : Int32) * (24 : Int32))] (zc6_lie l D ad cy (v1 - v1 / (24 : Int32) * (24 : Int32)) σ _  h) gX6_rolled_X6_lie rfl ⟨rfl, rfl⟩ zdsC_yX6_lie_v ⟨Nat.le_of_ble_eq_true rfl, Nat.le_of_ble_eq_true rfl⟩ (wC_at_1 ad cy σ) rfl rfl rfl rfl (Nat.le_of_ble_eq_true rfl) dX6_rolled_63 (fun r31 h => ?_)
    refine zz_iload_n K 6 dX6_rolled_66 rfl rfl ?_
    refine zz_callVi1 K zz_nwC [.int r31, .int v2] (zc6_reach l D ad cy r31 v2 σ _  h) gX6_rolled_X6_reach rfl ⟨rfl, rfl⟩ zdsC_yX6_reach_v ⟨Nat.le_of_ble_eq_true rfl, Nat.le_of_ble_eq_true rfl⟩ (wC_at_1 ad cy σ) rfl rfl rfl rfl (Nat.le_of_ble_eq_true rfl) dX6_rolled_67 (fun r32 h => ?_)
    refine zz_istore K [(7, .int r32), (6, .int x30), (5, .int r29), (4, .int r28), (3, .int x27), (0, .ref (ad 1)), (1, .int v1), (2, .int v2)] dX6_rolled_70 (by decide) rfl ?_
    refine zz_iload_n K 7 dX6_rolled_72 rfl rfl ?_
    refine zz_if_eq K 81 dX6_rolled_73 rfl (fun c33 => ?_) (fun c33 => ?_)
    · have h := (And.left h) c33
      refine zz_sub [5, 7, 3, 2, 1, 0] [(0, .ref (ad 1)), (2, .int v2), (4, .int r28), (5, .int r29), (6, .int x30), (7, .int r32)] rfl ?_
      exact zu6_rolled_81 K hret h
    · have h := (And.right h) c33
      refine zz_iload_n K 7 dX6_rolled_76 rfl rfl ?_
      refine zz_iconst K dX6_rolled_77 zcCi_2 ?_
      refine zz_icmp_ne K 102 dX6_rolled_78 rfl (fun c34 => ?_) (fun c34 => ?_)
      · have h := (And.left h) c34
        refine zz_iload K 1 dX6_rolled_102 rfl ?_
        refine zz_iload_n K 7 dX6_rolled_104 rfl rfl ?_
        refine zz_iconst K dX6_rolled_105 zcCi_1 ?_
        refine zz_icmp_ne K 114 dX6_rolled_106 rfl (fun c35 => ?_) (fun c35 => ?_)
        · have h := (And.left h) c35
          refine zz_iload K 0 dX6_rolled_114 rfl ?_
          refine zz_ineg K dX6_rolled_116 ?_
          refine zz_sub [5, 3, 2] [(0, .ref (ad 1)), (4, .int r28), (5, .int r29)] rfl ?_
          exact zu6_rolled_117 K hret h
        · have h := (And.right h) c35
          refine zz_iload K 0 dX6_rolled_109 rfl ?_
          refine zz_goto K 117 dX6_rolled_111 rfl ?_
          refine zz_sub [5, 3, 2] [(0, .ref (ad 1)), (4, .int r28), (5, .int r29)] rfl ?_
          exact zu6_rolled_117 K hret h
      · have h := (And.right h) c34
        refine zz_sub [5, 7, 3, 2, 1, 0] [(0, .ref (ad 1)), (2, .int v2), (4, .int r28), (5, .int r29), (6, .int x30), (7, .int r32)] rfl ?_
        exact zu6_rolled_81 K hret h
  · have h := (And.right h) c26
    refine zz_aload_n K 0 dX6_rolled_10 rfl rfl ?_
    refine zz_iload_n K 1 dX6_rolled_11 rfl rfl ?_
    refine zz_iload_n K 2 dX6_rolled_12 rfl rfl ?_
    refine zz_callVi1 K zz_nwC [.int v1, .int v2] (zc6_rolledTetra l D ad cy v1 v2 σ _  h) gX6_rolled_X6_rolledTetra rfl ⟨rfl, rfl⟩ zdsC_yX6_rolledTetra_v ⟨Nat.le_of_ble_eq_true rfl, Nat.le_of_ble_eq_true rfl⟩ (wC_at_1 ad cy σ) rfl rfl rfl rfl (Nat.le_of_ble_eq_true rfl) dX6_rolled_13 (fun r36 h => ?_)
    exact hret _ rfl h _ _ dX6_rolled_16
set_option maxRecDepth 100000 in
theorem zc6_rolled (l : Launch) (D : va_G) (ad : Nat → Nat) (cy : Nat → ClassId) (v1 : Int32) (v2 : Int32) (σ : zz_St) (Qp : Int32 → Prop) (h : zq6_rolled v1 v2 σ Qp) : zz_Mi l yX6_rolled wsX6_rolled zrm6_rolled D (tysC cy) (wC ad cy) nwC [.ref (ad 1), .int v1, .int v2] σ (fun r σ2 => σ2 = σ ∧ Qp r) :=
  zz_Mi.of zz_nwC (wC_ad ad cy) (by decide +kernel) rfl ⟨rfl, rfl⟩ (Nat.le_of_ble_eq_true rfl) (fun p e s m args below meth c A QW K hret => zu6_rolled_0 K  (fun r hn hq pc lv hd => hret r σ hn ⟨rfl, hq⟩ pc lv hd) h)
theorem zin_X4_floodTo_X4 : ∀ w ∈ wsX40, w ∈ wsX4_floodTo := fun w h => List.mem_cons_of_mem _ (List.mem_append_left _ (List.mem_append_left _ (List.mem_append_right _ h)))
theorem zlk_X4_floodTo_1 : Cond.fieldLink RX4 9 "SolidsRolled$Search" "steps" "[I" ∈ wsX4_floodTo := List.mem_of_getElem? (i := 1) rfl
theorem zlk_X4_floodTo_2 : Cond.fieldLink RX4 33 "SolidsRolled$Search" "size" "I" ∈ wsX4_floodTo := List.mem_of_getElem? (i := 2) rfl
theorem zin_X4_floodTo_X6 : ∀ w ∈ wsX60, w ∈ wsX4_floodTo := fun w h => List.mem_cons_of_mem _ (List.mem_append_left _ (List.mem_append_right _ h))
theorem zlk_X4_floodTo_3 : Cond.fieldLink RX4 47 "SolidsRolled$World" "state" "I" ∈ wsX4_floodTo := List.mem_of_getElem? (i := 3) rfl
theorem zcCs_1728 : (Int16.ofInt (1728)).toInt32 = (1728 : Int32) := by decide
theorem zlk_X4_floodTo_4 : Cond.fieldLink RX4 21 "SolidsRolled$Search" "queue" "[I" ∈ wsX4_floodTo := List.mem_of_getElem? (i := 4) rfl
theorem zdsC_yX4_add_v : yX4_add.cls = RX4 ∧ yX4_add.cls ≠ "java/lang/invoke/MethodHandle" ∧ yX4_add.cls ≠ "java/lang/invoke/VarHandle" ∧ (parseMethodDescriptor yX4_add.desc).map (fun d => d.parameters.length) = some 4 := by decide +kernel
theorem zdsC_yX6_rolled_v : yX6_rolled.cls = RX6 ∧ yX6_rolled.cls ≠ "java/lang/invoke/MethodHandle" ∧ yX6_rolled.cls ≠ "java/lang/invoke/VarHandle" ∧ (parseMethodDescriptor yX6_rolled.desc).map (fun d => d.parameters.length) = some 2 := by decide +kernel
theorem zdsC_yX6_isAt_v : yX6_isAt.cls = RX6 ∧ yX6_isAt.cls ≠ "java/lang/invoke/MethodHandle" ∧ yX6_isAt.cls ≠ "java/lang/invoke/VarHandle" ∧ (parseMethodDescriptor yX6_isAt.desc).map (fun d => d.parameters.length) = some 3 := by decide +kernel
abbrev zrm4_floodTo : Room := { frames := 3, cells := 0, slots := 0, locals := 77 }
set_option maxHeartbeats 4000000 in
set_option maxRecDepth 100000 in
theorem zu4_floodTo_120 {p : Program} {l : Launch} {e : Env} {s : State} {m : MethodId} {args : Array Value} {below : List Frame} {meth : Method} {c : Code} {Q : State → Prop} {D : va_G} {A : Nat → Prop} {ad : Nat → Nat} {cy : Nat → ClassId} {v2 : Int32} {v3 : Int32} {v4 : Int32} {v5 : Int32} {v6 : Int32} {σ : zz_St} (K : zz_K p s m args c cX4_floodTo 8 RX4 wsX4_floodTo D (tysC cy) A (wC ad cy) nwC) {Qp : Int32 → zz_St → Prop} (hret : ∀ (r : Int32) (σ2 : zz_St), narrow .int (.int r) = .int r → Qp r σ2 → ∀ (pc : Nat) (lv : List (Nat × Value)), decode cX4_floodTo pc = .ok (.ireturn, 1) → zz_G p l e zrm4_floodTo s m args below meth c Q D A (wC ad cy) 8 pc lv [.int r] σ2) {B27 : Int32 → zz_St → Prop} (hB27 : ∀ (v4' : Int32) (σ' : zz_St), B27 v4' σ' → zz_G p l e zrm4_floodTo s m args below meth c Q D A (wC ad cy) 8 27 [(0, .ref (ad 4)), (1, .ref (ad 1)), (2, .int v2), (3, .int v3), (4, .int v4')] [] σ') {B70 : Int32 → zz_St → Prop} (hB70 : ∀ (v6' : Int32) (σ' : zz_St), B70 v6' σ' → zz_G p l e zrm4_floodTo s m args below meth c Q D A (wC ad cy) 8 70 [(0, .ref (ad 4)), (1, .ref (ad 1)), (2, .int v2), (3, .int v3), (4, .int v4), (5, .int v5), (6, .int v6')] [] σ') (h : zq4_floodTo_120 v2 v3 v4 v5 v6 σ Qp B27 B70) : zz_G p l e zrm4_floodTo s m args below meth c Q D A (wC ad cy) 8 120 [(0, .ref (ad 4)), (1, .ref (ad 1)), (2, .int v2), (3, .int v3), (4, .int v4), (5, .int v5), (6, .int v6)] [] σ := by
  unfold zq4_floodTo_120 at h
  refine zz_iinc K 6 [(6, .int (v6 + (1 : Int32))), (0, .ref (ad 4)), (1, .ref (ad 1)), (2, .int v2), (3, .int v3), (4, .int v4), (5, .int v5)] dX4_floodTo_120 zcCi_1 rfl (by decide) rfl ?_
  refine zz_goto K 70 dX4_floodTo_123 rfl ?_
  refine zz_sub [1, 2, 3, 4, 5, 6, 0] [(0, .ref (ad 4)), (1, .ref (ad 1)), (2, .int v2), (3, .int v3), (4, .int v4), (5, .int v5), (6, .int (v6 + (1 : Int32)))] rfl ?_
  exact hB70 (v6 + (1 : Int32)) σ h
set_option maxHeartbeats 4000000 in
set_option maxRecDepth 100000 in
theorem zu4_floodTo_70 {p : Program} {l : Launch} {e : Env} {s : State} {m : MethodId} {args : Array Value} {below : List Frame} {meth : Method} {c : Code} {Q : State → Prop} {D : va_G} {A : Nat → Prop} {ad : Nat → Nat} {cy : Nat → ClassId} {v2 : Int32} {v3 : Int32} {v4 : Int32} {v5 : Int32} {v6 : Int32} {σ : zz_St} (K : zz_K p s m args c cX4_floodTo 8 RX4 wsX4_floodTo D (tysC cy) A (wC ad cy) nwC) {Qp : Int32 → zz_St → Prop} (hret : ∀ (r : Int32) (σ2 : zz_St), narrow .int (.int r) = .int r → Qp r σ2 → ∀ (pc : Nat) (lv : List (Nat × Value)), decode cX4_floodTo pc = .ok (.ireturn, 1) → zz_G p l e zrm4_floodTo s m args below meth c Q D A (wC ad cy) 8 pc lv [.int r] σ2) {B27 : Int32 → zz_St → Prop} (hB27 : ∀ (v4' : Int32) (σ' : zz_St), B27 v4' σ' → zz_G p l e zrm4_floodTo s m args below meth c Q D A (wC ad cy) 8 27 [(0, .ref (ad 4)), (1, .ref (ad 1)), (2, .int v2), (3, .int v3), (4, .int v4')] [] σ') (h : zq4_floodTo_70 v2 v3 v4 v5 v6 σ Qp B27) : zz_G p l e zrm4_floodTo s m args below meth c Q D A (wC ad cy) 8 70 [(0, .ref (ad 4)), (1, .ref (ad 1)), (2, .int v2), (3, .int v3), (4, .int v4), (5, .int v5), (6, .int v6)] [] σ := by
  unfold zq4_floodTo_70 at h
  obtain ⟨I70, M70, h0, hs⟩ := h
  have key : ∀ (nq : Nat) (v6 : Int32) (σ : zz_St), M70 v6 σ < nq → I70 v6 σ → zz_G p l e zrm4_floodTo s m args below meth c Q D A (wC ad cy) 8 70 [(0, .ref (ad 4)), (1, .ref (ad 1)), (2, .int v2), (3, .int v3), (4, .int v4), (5, .int v5), (6, .int v6)] [] σ := by
    intro nq
    induction nq with
    | zero => intro v6 σ hlt; exact absurd hlt (Nat.not_lt_zero _)
    | succ nq ih =>
      intro v6 σ hlt hI
      have h := hs v6 σ hI
      have hB70 : ∀ (v6' : Int32) (σ' : zz_St), (fun v6' σ' => I70 v6' σ' ∧ M70 v6' σ' < M70 v6 σ) v6' σ' → zz_G p l e zrm4_floodTo s m args below meth c Q D A (wC ad cy) 8 70 [(0, .ref (ad 4)), (1, .ref (ad 1)), (2, .int v2), (3, .int v3), (4, .int v4), (5, .int v5), (6, .int v6')] [] σ' := fun v6' σ' hz => ih v6' σ' (Nat.lt_of_lt_of_le hz.2 (Nat.le_of_lt_succ hlt)) hz.1
      refine zz_iload K 6 dX4_floodTo_70 rfl ?_
      refine zz_iconst K dX4_floodTo_72 zcCi_4 ?_
      refine zz_icmp_ge K 126 dX4_floodTo_73 rfl (fun c16 => ?_) (fun c16 => ?_)
      · have h := (And.left h) c16
        refine zz_iinc K 4 [(4, .int (v4 + (1 : Int32))), (0, .ref (ad 4)), (1, .ref (ad 1)), (2, .int v2), (3, .int v3), (5, .int v5), (6, .int v6)] dX4_floodTo_126 zcCi_1 rfl (by decide) rfl ?_
        refine zz_goto K 27 dX4_floodTo_129 rfl ?_
        refine zz_sub [1, 2, 3, 4, 0] [(0, .ref (ad 4)), (1, .ref (ad 1)), (2, .int v2), (3, .int v3), (4, .int (v4 + (1 : Int32)))] rfl ?_
        exact hB27 (v4 + (1 : Int32)) σ h
      · have h := (And.right h) c16
        refine zz_aload_n K 1 dX4_floodTo_76 rfl rfl ?_
        refine zz_iload K 5 dX4_floodTo_77 rfl ?_
        refine zz_iload K 6 dX4_floodTo_79 rfl ?_
        refine zz_callVi1 K zz_nwC [.int v5, .int v6] (zc6_rolled l D ad cy v5 v6 σ _  h) gX4_floodTo_X6_rolled rfl ⟨rfl, rfl⟩ zdsC_yX6_rolled_v ⟨Nat.le_of_ble_eq_true rfl, Nat.le_of_ble_eq_true rfl⟩ (wC_at_1 ad cy σ) rfl rfl rfl rfl (Nat.le_of_ble_eq_true rfl) dX4_floodTo_81 (fun r17 h => ?_)
        refine zz_istore K [(7, .int r17), (0, .ref (ad 4)), (1, .ref (ad 1)), (2, .int v2), (3, .int v3), (4, .int v4), (5, .int v5), (6, .int v6)] dX4_floodTo_84 (by decide) rfl ?_
        refine zz_iload K 0 dX4_floodTo_86 rfl ?_
        refine zz_if_lt K 120 dX4_floodTo_88 rfl (fun c18 => ?_) (fun c18 => ?_)
        · have h := (And.left h) c18
          refine zz_sub [1, 2, 3, 4, 5, 6, 7] [(0, .ref (ad 4)), (1, .ref (ad 1)), (2, .int v2), (3, .int v3), (4, .int v4), (5, .int v5), (6, .int v6)] rfl ?_
          exact zu4_floodTo_120 K hret hB27 hB70 h
        · have h := (And.right h) c18
          refine zz_aload_n K 1 dX4_floodTo_91 rfl rfl ?_
          refine zg4_0_0 K zin_X4_floodTo_X4 zlk_X4_floodTo_1 dX4_floodTo_92 ?_
          refine zz_iload K 0 dX4_floodTo_95 rfl ?_
          obtain ⟨hin, h⟩ := h
          refine zz_iaload K 0 (wC_at_19 ad cy σ) rfl hin dX4_floodTo_97 ?_
          refine zz_if_ge K 120 dX4_floodTo_98 rfl (fun c19 => ?_) (fun c19 => ?_)
          · have h := (And.left h) c19
            refine zz_sub [1, 2, 3, 4, 5, 6, 7] [(0, .ref (ad 4)), (1, .ref (ad 1)), (2, .int v2), (3, .int v3), (4, .int v4), (5, .int v5), (6, .int v6)] rfl ?_
            exact zu4_floodTo_120 K hret hB27 hB70 h
          · have h := (And.right h) c19
            refine zz_aload_n K 1 dX4_floodTo_101 rfl rfl ?_
            refine zz_iload K 0 dX4_floodTo_102 rfl ?_
            refine zz_iload K 6 dX4_floodTo_104 rfl ?_
            refine zz_iload K 7 dX4_floodTo_106 rfl ?_
            refine zz_aload_n K 1 dX4_floodTo_108 rfl rfl ?_
            refine zg4_0_0 K zin_X4_floodTo_X4 zlk_X4_floodTo_1 dX4_floodTo_109 ?_
            refine zz_iload K 6 dX4_floodTo_112 rfl ?_
            obtain ⟨hin, h⟩ := h
            refine zz_iaload K 0 (wC_at_19 ad cy σ) rfl hin dX4_floodTo_114 ?_
            refine zz_iconst K dX4_floodTo_115 zcCi_1 ?_
            refine zz_iadd K dX4_floodTo_116 ?_
            refine zz_callVv K zz_nwC [.int r17, .int v5, .int v6, .int (((σ).2.1 19 v5.toNatClampNeg) + (1 : Int32))] (zc4_add l D ad cy r17 v5 v6 (((σ).2.1 19 v5.toNatClampNeg) + (1 : Int32)) σ _  h) gX4_floodTo_X4_add rfl ⟨rfl, rfl⟩ zdsC_yX4_add_v ⟨Nat.le_of_ble_eq_true rfl, Nat.le_of_ble_eq_true rfl⟩ (wC_at_4 ad cy σ) rfl rfl rfl rfl (Nat.le_of_ble_eq_true rfl) dX4_floodTo_117 (fun g20 h => ?_)
            refine zz_sub [1, 2, 3, 4, 5, 6, 7] [(0, .ref (ad 4)), (1, .ref (ad 1)), (2, .int v2), (3, .int v3), (4, .int v4), (5, .int v5), (6, .int v6)] rfl ?_
            exact zu4_floodTo_120 K hret hB27 hB70 h
  exact key _ v6 σ (Nat.lt_succ_self _) h0
set_option maxHeartbeats 4000000 in
set_option maxRecDepth 100000 in
theorem zu4_floodTo_27 {p : Program} {l : Launch} {e : Env} {s : State} {m : MethodId} {args : Array Value} {below : List Frame} {meth : Method} {c : Code} {Q : State → Prop} {D : va_G} {A : Nat → Prop} {ad : Nat → Nat} {cy : Nat → ClassId} {v2 : Int32} {v3 : Int32} {v4 : Int32} {σ : zz_St} (K : zz_K p s m args c cX4_floodTo 8 RX4 wsX4_floodTo D (tysC cy) A (wC ad cy) nwC) {Qp : Int32 → zz_St → Prop} (hret : ∀ (r : Int32) (σ2 : zz_St), narrow .int (.int r) = .int r → Qp r σ2 → ∀ (pc : Nat) (lv : List (Nat × Value)), decode cX4_floodTo pc = .ok (.ireturn, 1) → zz_G p l e zrm4_floodTo s m args below meth c Q D A (wC ad cy) 8 pc lv [.int r] σ2) (h : zq4_floodTo_27 v2 v3 v4 σ Qp) : zz_G p l e zrm4_floodTo s m args below meth c Q D A (wC ad cy) 8 27 [(0, .ref (ad 4)), (1, .ref (ad 1)), (2, .int v2), (3, .int v3), (4, .int v4)] [] σ := by
  unfold zq4_floodTo_27 at h
  obtain ⟨I27, M27, h0, hs⟩ := h
  have key : ∀ (nq : Nat) (v4 : Int32) (σ : zz_St), M27 v4 σ < nq → I27 v4 σ → zz_G p l e zrm4_floodTo s m args below meth c Q D A (wC ad cy) 8 27 [(0, .ref (ad 4)), (1, .ref (ad 1)), (2, .int v2), (3, .int v3), (4, .int v4)] [] σ := by
    intro nq
    induction nq with
    | zero => intro v4 σ hlt; exact absurd hlt (Nat.not_lt_zero _)
    | succ nq ih =>
      intro v4 σ hlt hI
      have h := hs v4 σ hI
      have hB27 : ∀ (v4' : Int32) (σ' : zz_St), (fun v4' σ' => I27 v4' σ' ∧ M27 v4' σ' < M27 v4 σ) v4' σ' → zz_G p l e zrm4_floodTo s m args below meth c Q D A (wC ad cy) 8 27 [(0, .ref (ad 4)), (1, .ref (ad 1)), (2, .int v2), (3, .int v3), (4, .int v4')] [] σ' := fun v4' σ' hz => ih v4' σ' (Nat.lt_of_lt_of_le hz.2 (Nat.le_of_lt_succ hlt)) hz.1
      refine zz_iload K 4 dX4_floodTo_27 rfl ?_
      refine zz_aload_n K 0 dX4_floodTo_29 rfl rfl ?_
      refine zg4_7_0 K zin_X4_floodTo_X4 zlk_X4_floodTo_2 dX4_floodTo_30 ?_
      refine zz_icmp_ge K 132 dX4_floodTo_33 rfl (fun c21 => ?_) (fun c21 => ?_)
      · have h := (And.left h) c21
        refine zz_iconst K dX4_floodTo_132 zcCi_m1 ?_
        exact hret _ _ rfl h _ _ dX4_floodTo_133
      · have h := (And.right h) c21
        refine zz_iload K 4 dX4_floodTo_36 rfl ?_
        refine zz_sipush K dX4_floodTo_38 zcCs_1728 ?_
        refine zz_icmp_ge K 132 dX4_floodTo_41 rfl (fun c22 => ?_) (fun c22 => ?_)
        · have h := (And.left h) c22
          refine zz_iconst K dX4_floodTo_132 zcCi_m1 ?_
          exact hret _ _ rfl h _ _ dX4_floodTo_133
        · have h := (And.right h) c22
          refine zz_aload_n K 0 dX4_floodTo_44 rfl rfl ?_
          refine zg4_3_0 K zin_X4_floodTo_X4 zlk_X4_floodTo_4 dX4_floodTo_45 ?_
          refine zz_iload K 4 dX4_floodTo_48 rfl ?_
          obtain ⟨hin, h⟩ := h
          refine zz_iaload K 0 (wC_at_22 ad cy σ) rfl hin dX4_floodTo_50 ?_
          refine zz_nmi (fun x23 ex23 => ?_)
          have h := h x23 ex23
          refine zz_istore K [(5, .int x23), (0, .ref (ad 4)), (1, .ref (ad 1)), (2, .int v2), (3, .int v3), (4, .int v4)] dX4_floodTo_51 (by decide) rfl ?_
          refine zz_aload_n K 2 dX4_floodTo_53 rfl rfl ?_
          refine zz_iload K 0 dX4_floodTo_54 rfl ?_
          refine zz_iload_n K 3 dX4_floodTo_56 rfl rfl ?_
          refine zz_iload_n K 4 dX4_floodTo_57 rfl rfl ?_
          refine zz_callVi1 K zz_nwC [.int x23, .int v2, .int v3] (zc6_isAt l D ad cy x23 v2 v3 σ _  h) gX4_floodTo_X6_isAt rfl ⟨rfl, rfl⟩ zdsC_yX6_isAt_v ⟨Nat.le_of_ble_eq_true rfl, Nat.le_of_ble_eq_true rfl⟩ (wC_at_1 ad cy σ) rfl rfl rfl rfl (Nat.le_of_ble_eq_true rfl) dX4_floodTo_58 (fun r24 h => ?_)
          refine zz_if_eq K 67 dX4_floodTo_61 rfl (fun c25 => ?_) (fun c25 => ?_)
          · have h := (And.left h) c25
            refine zz_iconst K dX4_floodTo_67 zcCi_0 ?_
            refine zz_istore K [(6, .int (0 : Int32)), (5, .int x23), (0, .ref (ad 4)), (1, .ref (ad 1)), (2, .int v2), (3, .int v3), (4, .int v4)] dX4_floodTo_68 (by decide) rfl ?_
            refine zz_sub [2, 3, 4, 5, 6, 1, 0] [(0, .ref (ad 4)), (1, .ref (ad 1)), (2, .int v2), (3, .int v3), (4, .int v4), (5, .int x23), (6, .int (0 : Int32))] rfl ?_
            exact zu4_floodTo_70 K hret hB27 h
          · have h := (And.right h) c25
            refine zz_iload K 0 dX4_floodTo_64 rfl ?_
            exact hret _ _ rfl h _ _ dX4_floodTo_66
  exact key _ v4 σ (Nat.lt_succ_self _) h0
set_option maxHeartbeats 4000000 in
set_option maxRecDepth 100000 in
theorem zu4_floodTo_0 {p : Program} {l : Launch} {e : Env} {s : State} {m : MethodId} {args : Array Value} {below : List Frame} {meth : Method} {c : Code} {Q : State → Prop} {D : va_G} {A : Nat → Prop} {ad : Nat → Nat} {cy : Nat → ClassId} {v2 : Int32} {v3 : Int32} {σ : zz_St} (K : zz_K p s m args c cX4_floodTo 8 RX4 wsX4_floodTo D (tysC cy) A (wC ad cy) nwC) {Qp : Int32 → zz_St → Prop} (hret : ∀ (r : Int32) (σ2 : zz_St), narrow .int (.int r) = .int r → Qp r σ2 → ∀ (pc : Nat) (lv : List (Nat × Value)), decode cX4_floodTo pc = .ok (.ireturn, 1) → zz_G p l e zrm4_floodTo s m args below meth c Q D A (wC ad cy) 8 pc lv [.int r] σ2) (h : zq4_floodTo v2 v3 σ Qp) : zz_G p l e zrm4_floodTo s m args below meth c Q D A (wC ad cy) 8 0 [(0, .ref (ad 4)), (1, .ref (ad 1)), (2, .int v2), (3, .int v3)] [] σ := by
  unfold zq4_floodTo at h
  refine zz_aload_n K 0 dX4_floodTo_0 rfl rfl ?_
  refine zg4_0_0 K zin_X4_floodTo_X4 zlk_X4_floodTo_1 dX4_floodTo_1 ?_
  refine zz_iconst K dX4_floodTo_4 zcCi_m1 ?_
  refine zz_fill K 0 (fun z => zz_A σ 19 z) (wC_at_19 ad cy σ) (wC_set_19 ad cy σ) rfl (by decide) gX4_floodTo_J7_fill_53178 (Nat.le_of_ble_eq_true rfl) (Nat.le_of_ble_eq_true rfl) (Nat.le_of_ble_eq_true rfl) dX4_floodTo_5 (fun f26 e27 => ?_)
  have h := h f26 e27
  refine zz_nms (fun g28 eg28 => ?_)
  have h := h g28 eg28
  refine zz_aload_n K 0 dX4_floodTo_8 rfl rfl ?_
  refine zz_iconst K dX4_floodTo_9 zcCi_0 ?_
  refine zp4_7_0 K zin_X4_floodTo_X4 zlk_X4_floodTo_2 dX4_floodTo_10 ?_
  refine zz_nms (fun g29 eg29 => ?_)
  have h := h g29 eg29
  refine zz_aload_n K 0 dX4_floodTo_13 rfl rfl ?_
  refine zz_aload_n K 1 dX4_floodTo_14 rfl rfl ?_
  refine zg6_7_0 K zin_X4_floodTo_X6 zlk_X4_floodTo_3 dX4_floodTo_15 ?_
  refine zz_iconst K dX4_floodTo_18 zcCi_m1 ?_
  refine zz_iconst K dX4_floodTo_19 zcCi_m1 ?_
  refine zz_iconst K dX4_floodTo_20 zcCi_0 ?_
  refine zz_callVv K zz_nwC [.int (g29.1 8), .int (-1 : Int32), .int (-1 : Int32), .int (0 : Int32)] (zc4_add l D ad cy (g29.1 8) (-1 : Int32) (-1 : Int32) (0 : Int32) g29 _  h) gX4_floodTo_X4_add rfl ⟨rfl, rfl⟩ zdsC_yX4_add_v ⟨Nat.le_of_ble_eq_true rfl, Nat.le_of_ble_eq_true rfl⟩ (wC_at_4 ad cy g29) rfl rfl rfl rfl (Nat.le_of_ble_eq_true rfl) dX4_floodTo_21 (fun g30 h => ?_)
  refine zz_iconst K dX4_floodTo_24 zcCi_0 ?_
  refine zz_istore K [(4, .int (0 : Int32)), (0, .ref (ad 4)), (1, .ref (ad 1)), (2, .int v2), (3, .int v3)] dX4_floodTo_25 (by decide) rfl ?_
  refine zz_sub [1, 2, 3, 4, 0] [(0, .ref (ad 4)), (1, .ref (ad 1)), (2, .int v2), (3, .int v3), (4, .int (0 : Int32))] rfl ?_
  exact zu4_floodTo_27 K hret h
set_option maxRecDepth 100000 in
theorem zc4_floodTo (l : Launch) (D : va_G) (ad : Nat → Nat) (cy : Nat → ClassId) (v2 : Int32) (v3 : Int32) (σ : zz_St) (Qp : Int32 → zz_St → Prop) (h : zq4_floodTo v2 v3 σ Qp) : zz_Mi l yX4_floodTo wsX4_floodTo zrm4_floodTo D (tysC cy) (wC ad cy) nwC [.ref (ad 4), .ref (ad 1), .int v2, .int v3] σ Qp :=
  zz_Mi.of zz_nwC (wC_ad ad cy) (by decide +kernel) rfl ⟨rfl, rfl⟩ (Nat.le_of_ble_eq_true rfl) (fun p e s m args below meth c A QW K hret => zu4_floodTo_0 K  hret h)
theorem zdsC_yX4_floodTo_v : yX4_floodTo.cls = RX4 ∧ yX4_floodTo.cls ≠ "java/lang/invoke/MethodHandle" ∧ yX4_floodTo.cls ≠ "java/lang/invoke/VarHandle" ∧ (parseMethodDescriptor yX4_floodTo.desc).map (fun d => d.parameters.length) = some 3 := by decide +kernel
abbrev zrm4_floodAll : Room := { frames := 4, cells := 0, slots := 0, locals := 104 }
set_option maxHeartbeats 4000000 in
set_option maxRecDepth 100000 in
theorem zu4_floodAll_0 {p : Program} {l : Launch} {e : Env} {s : State} {m : MethodId} {args : Array Value} {below : List Frame} {meth : Method} {c : Code} {Q : State → Prop} {D : va_G} {A : Nat → Prop} {ad : Nat → Nat} {cy : Nat → ClassId}  {σ : zz_St} (K : zz_K p s m args c cX4_floodAll 2 RX4 wsX4_floodAll D (tysC cy) A (wC ad cy) nwC) {Qp : zz_St → Prop} (hret : ∀ (σ2 : zz_St), Qp σ2 → ∀ (pc : Nat) (lv : List (Nat × Value)), decode cX4_floodAll pc = .ok (.return_, 1) → zz_G p l e zrm4_floodAll s m args below meth c Q D A (wC ad cy) 2 pc lv [] σ2) (h : zq4_floodAll σ Qp) : zz_G p l e zrm4_floodAll s m args below meth c Q D A (wC ad cy) 2 0 [(0, .ref (ad 4)), (1, .ref (ad 1))] [] σ := by
  unfold zq4_floodAll at h
  refine zz_aload_n K 0 dX4_floodAll_0 rfl rfl ?_
  refine zz_aload_n K 1 dX4_floodAll_1 rfl rfl ?_
  refine zz_iconst K dX4_floodAll_2 zcCi_m1 ?_
  refine zz_iconst K dX4_floodAll_3 zcCi_m1 ?_
  refine zz_callVi K zz_nwC [.ref (ad 1), .int (-1 : Int32), .int (-1 : Int32)] (zc4_floodTo l D ad cy (-1 : Int32) (-1 : Int32) σ _  h) gX4_floodAll_X4_floodTo rfl ⟨rfl, rfl⟩ zdsC_yX4_floodTo_v ⟨Nat.le_of_ble_eq_true rfl, Nat.le_of_ble_eq_true rfl⟩ (wC_at_4 ad cy σ) rfl rfl rfl rfl (Nat.le_of_ble_eq_true rfl) dX4_floodAll_4 (fun r3 g4 h => ?_)
  refine zz_pop K rfl dX4_floodAll_7 ?_
  exact hret _ h _ _ dX4_floodAll_8
set_option maxRecDepth 100000 in
theorem zc4_floodAll (l : Launch) (D : va_G) (ad : Nat → Nat) (cy : Nat → ClassId)  (σ : zz_St) (Qp : zz_St → Prop) (h : zq4_floodAll σ Qp) : zz_Mv l yX4_floodAll wsX4_floodAll zrm4_floodAll D (tysC cy) (wC ad cy) nwC [.ref (ad 4), .ref (ad 1)] σ Qp :=
  zz_Mv.of zz_nwC (wC_ad ad cy) (by decide +kernel) rfl ⟨rfl, rfl⟩ (Nat.le_of_ble_eq_true rfl) (fun p e s m args below meth c A QW K hret => zu4_floodAll_0 K  hret h)
theorem zin_X4_wayToward_X4 : ∀ w ∈ wsX40, w ∈ wsX4_wayToward := fun w h => List.mem_cons_of_mem _ (List.mem_append_right _ h)
theorem zlk_X4_wayToward_1 : Cond.fieldLink RX4 9 "SolidsRolled$Search" "steps" "[I" ∈ wsX4_wayToward := List.mem_of_getElem? (i := 1) rfl
theorem zlk_X4_wayToward_3 : Cond.fieldLink RX4 18 "SolidsRolled$Search" "cameBy" "[I" ∈ wsX4_wayToward := List.mem_of_getElem? (i := 3) rfl
theorem zlk_X4_wayToward_2 : Cond.fieldLink RX4 15 "SolidsRolled$Search" "cameFrom" "[I" ∈ wsX4_wayToward := List.mem_of_getElem? (i := 2) rfl
abbrev zrm4_wayToward : Room := { frames := 0, cells := 0, slots := 0, locals := 0 }
set_option maxHeartbeats 4000000 in
set_option maxRecDepth 100000 in
theorem zu4_wayToward_12 {p : Program} {l : Launch} {e : Env} {s : State} {m : MethodId} {args : Array Value} {below : List Frame} {meth : Method} {c : Code} {Q : State → Prop} {D : va_G} {A : Nat → Prop} {ad : Nat → Nat} {cy : Nat → ClassId} {v2 : Int32} {v3 : Int32} {v4 : Int32} {σ : zz_St} (K : zz_K p s m args c cX4_wayToward 5 RX4 wsX4_wayToward D (tysC cy) A (wC ad cy) nwC) {Qp : Int32 → Prop} (hret : ∀ (r : Int32), narrow .int (.int r) = .int r → Qp r → ∀ (pc : Nat) (lv : List (Nat × Value)), decode cX4_wayToward pc = .ok (.ireturn, 1) → zz_G p l e zrm4_wayToward s m args below meth c Q D A (wC ad cy) 5 pc lv [.int r] σ) (h : zq4_wayToward_12 v2 v3 v4 σ Qp) : zz_G p l e zrm4_wayToward s m args below meth c Q D A (wC ad cy) 5 12 [(0, .ref (ad 4)), (2, .int v2), (3, .int v3), (4, .int v4)] [] σ := by
  unfold zq4_wayToward_12 at h
  obtain ⟨I12, M12, h0, hs⟩ := h
  have key : ∀ (nq : Nat) (v3 : Int32) (v4 : Int32), M12 v3 v4 < nq → I12 v3 v4 → zz_G p l e zrm4_wayToward s m args below meth c Q D A (wC ad cy) 5 12 [(0, .ref (ad 4)), (2, .int v2), (3, .int v3), (4, .int v4)] [] σ := by
    intro nq
    induction nq with
    | zero => intro v3 v4 hlt; exact absurd hlt (Nat.not_lt_zero _)
    | succ nq ih =>
      intro v3 v4 hlt hI
      have h := hs v3 v4 hI
      have hB12 : ∀ (v3' : Int32) (v4' : Int32), (fun v3' v4' => I12 v3' v4' ∧ M12 v3' v4' < M12 v3 v4) v3' v4' → zz_G p l e zrm4_wayToward s m args below meth c Q D A (wC ad cy) 5 12 [(0, .ref (ad 4)), (2, .int v2), (3, .int v3'), (4, .int v4')] [] σ := fun v3' v4' hz => ih v3' v4' (Nat.lt_of_lt_of_le hz.2 (Nat.le_of_lt_succ hlt)) hz.1
      refine zz_iload K 3 dX4_wayToward_12 rfl ?_
      refine zz_iload_n K 1 dX4_wayToward_14 rfl rfl ?_
      refine zz_icmp_le K 31 dX4_wayToward_15 rfl (fun c4 => ?_) (fun c4 => ?_)
      · have h := (And.left h) c4
        refine zz_aload_n K 0 dX4_wayToward_31 rfl rfl ?_
        refine zg4_2_0 K zin_X4_wayToward_X4 zlk_X4_wayToward_3 dX4_wayToward_32 ?_
        refine zz_iload_n K 2 dX4_wayToward_35 rfl rfl ?_
        obtain ⟨hin, h⟩ := h
        refine zz_iaload K 0 (wC_at_21 ad cy σ) rfl hin dX4_wayToward_36 ?_
        exact hret _ rfl h _ _ dX4_wayToward_37
      · have h := (And.right h) c4
        refine zz_aload_n K 0 dX4_wayToward_18 rfl rfl ?_
        refine zg4_1_0 K zin_X4_wayToward_X4 zlk_X4_wayToward_2 dX4_wayToward_19 ?_
        refine zz_iload_n K 2 dX4_wayToward_22 rfl rfl ?_
        obtain ⟨hin, h⟩ := h
        refine zz_iaload K 0 (wC_at_20 ad cy σ) rfl hin dX4_wayToward_23 ?_
        refine zz_nmi (fun x5 ex5 => ?_)
        have h := h x5 ex5
        refine zz_istore_n K [(3, .int x5), (0, .ref (ad 4)), (2, .int v2), (4, .int v4)] dX4_wayToward_24 rfl (by decide) rfl ?_
        refine zz_iinc K 3 [(4, .int (v4 + (-1 : Int32))), (3, .int x5), (0, .ref (ad 4)), (2, .int v2)] dX4_wayToward_25 zcCi_m1 rfl (by decide) rfl ?_
        refine zz_goto K 12 dX4_wayToward_28 rfl ?_
        refine zz_sub [2, 3, 1, 0] [(0, .ref (ad 4)), (2, .int v2), (3, .int x5), (4, .int (v4 + (-1 : Int32)))] rfl ?_
        exact hB12 x5 (v4 + (-1 : Int32)) h
  exact key _ v3 v4 (Nat.lt_succ_self _) h0
set_option maxHeartbeats 4000000 in
set_option maxRecDepth 100000 in
theorem zu4_wayToward_0 {p : Program} {l : Launch} {e : Env} {s : State} {m : MethodId} {args : Array Value} {below : List Frame} {meth : Method} {c : Code} {Q : State → Prop} {D : va_G} {A : Nat → Prop} {ad : Nat → Nat} {cy : Nat → ClassId} {v1 : Int32} {v2 : Int32} {σ : zz_St} (K : zz_K p s m args c cX4_wayToward 5 RX4 wsX4_wayToward D (tysC cy) A (wC ad cy) nwC) {Qp : Int32 → Prop} (hret : ∀ (r : Int32), narrow .int (.int r) = .int r → Qp r → ∀ (pc : Nat) (lv : List (Nat × Value)), decode cX4_wayToward pc = .ok (.ireturn, 1) → zz_G p l e zrm4_wayToward s m args below meth c Q D A (wC ad cy) 5 pc lv [.int r] σ) (h : zq4_wayToward v1 v2 σ Qp) : zz_G p l e zrm4_wayToward s m args below meth c Q D A (wC ad cy) 5 0 [(0, .ref (ad 4)), (1, .int v1), (2, .int v2)] [] σ := by
  unfold zq4_wayToward at h
  refine zz_iload_n K 1 dX4_wayToward_0 rfl rfl ?_
  refine zz_istore_n K [(3, .int v1), (0, .ref (ad 4)), (1, .int v1), (2, .int v2)] dX4_wayToward_1 rfl (by decide) rfl ?_
  refine zz_aload_n K 1 dX4_wayToward_2 rfl rfl ?_
  refine zg4_0_0 K zin_X4_wayToward_X4 zlk_X4_wayToward_1 dX4_wayToward_3 ?_
  refine zz_iload_n K 2 dX4_wayToward_6 rfl rfl ?_
  obtain ⟨hin, h⟩ := h
  refine zz_iaload K 0 (wC_at_19 ad cy σ) rfl hin dX4_wayToward_7 ?_
  refine zz_iconst K dX4_wayToward_8 zcCi_1 ?_
  refine zz_isub K dX4_wayToward_9 ?_
  refine zz_nmi (fun x6 ex6 => ?_)
  have h := h x6 ex6
  refine zz_istore K [(4, .int x6), (3, .int v1), (0, .ref (ad 4)), (1, .int v1), (2, .int v2)] dX4_wayToward_10 (by decide) rfl ?_
  refine zz_sub [2, 4, 1, 0] [(0, .ref (ad 4)), (2, .int v2), (3, .int v1), (4, .int x6)] rfl ?_
  exact zu4_wayToward_12 K hret h
set_option maxRecDepth 100000 in
theorem zc4_wayToward (l : Launch) (D : va_G) (ad : Nat → Nat) (cy : Nat → ClassId) (v1 : Int32) (v2 : Int32) (σ : zz_St) (Qp : Int32 → Prop) (h : zq4_wayToward v1 v2 σ Qp) : zz_Mi l yX4_wayToward wsX4_wayToward zrm4_wayToward D (tysC cy) (wC ad cy) nwC [.ref (ad 4), .int v1, .int v2] σ (fun r σ2 => σ2 = σ ∧ Qp r) :=
  zz_Mi.of zz_nwC (wC_ad ad cy) (by decide +kernel) rfl ⟨rfl, rfl⟩ (Nat.le_of_ble_eq_true rfl) (fun p e s m args below meth c A QW K hret => zu4_wayToward_0 K  (fun r hn hq pc lv hd => hret r σ hn ⟨rfl, hq⟩ pc lv hd) h)
theorem zin_X4_countPlaces_X4 : ∀ w ∈ wsX40, w ∈ wsX4_countPlaces := fun w h => List.mem_cons_of_mem _ (List.mem_append_right _ h)
theorem zlk_X4_countPlaces_1 : Cond.fieldLink RX4 24 "SolidsRolled$Search" "marks" "[I" ∈ wsX4_countPlaces := List.mem_of_getElem? (i := 1) rfl
theorem zlk_X4_countPlaces_2 : Cond.fieldLink RX4 33 "SolidsRolled$Search" "size" "I" ∈ wsX4_countPlaces := List.mem_of_getElem? (i := 2) rfl
theorem zlk_X4_countPlaces_3 : Cond.fieldLink RX4 21 "SolidsRolled$Search" "queue" "[I" ∈ wsX4_countPlaces := List.mem_of_getElem? (i := 3) rfl
abbrev zrm4_countPlaces : Room := { frames := 1, cells := 0, slots := 0, locals := 23 }
set_option maxHeartbeats 4000000 in
set_option maxRecDepth 100000 in
theorem zu4_countPlaces_12 {p : Program} {l : Launch} {e : Env} {s : State} {m : MethodId} {args : Array Value} {below : List Frame} {meth : Method} {c : Code} {Q : State → Prop} {D : va_G} {A : Nat → Prop} {ad : Nat → Nat} {cy : Nat → ClassId} {v1 : Int32} {v2 : Int32} {σ : zz_St} (K : zz_K p s m args c cX4_countPlaces 4 RX4 wsX4_countPlaces D (tysC cy) A (wC ad cy) nwC) {Qp : Int32 → zz_St → Prop} (hret : ∀ (r : Int32) (σ2 : zz_St), narrow .int (.int r) = .int r → Qp r σ2 → ∀ (pc : Nat) (lv : List (Nat × Value)), decode cX4_countPlaces pc = .ok (.ireturn, 1) → zz_G p l e zrm4_countPlaces s m args below meth c Q D A (wC ad cy) 4 pc lv [.int r] σ2) (h : zq4_countPlaces_12 v1 v2 σ Qp) : zz_G p l e zrm4_countPlaces s m args below meth c Q D A (wC ad cy) 4 12 [(0, .ref (ad 4)), (1, .int v1), (2, .int v2)] [] σ := by
  unfold zq4_countPlaces_12 at h
  obtain ⟨I12, M12, h0, hs⟩ := h
  have key : ∀ (nq : Nat) (v1 : Int32) (v2 : Int32) (σ : zz_St), M12 v1 v2 σ < nq → I12 v1 v2 σ → zz_G p l e zrm4_countPlaces s m args below meth c Q D A (wC ad cy) 4 12 [(0, .ref (ad 4)), (1, .int v1), (2, .int v2)] [] σ := by
    intro nq
    induction nq with
    | zero => intro v1 v2 σ hlt; exact absurd hlt (Nat.not_lt_zero _)
    | succ nq ih =>
      intro v1 v2 σ hlt hI
      have h := hs v1 v2 σ hI
      have hB12 : ∀ (v1' : Int32) (v2' : Int32) (σ' : zz_St), (fun v1' v2' σ' => I12 v1' v2' σ' ∧ M12 v1' v2' σ' < M12 v1 v2 σ) v1' v2' σ' → zz_G p l e zrm4_countPlaces s m args below meth c Q D A (wC ad cy) 4 12 [(0, .ref (ad 4)), (1, .int v1'), (2, .int v2')] [] σ' := fun v1' v2' σ' hz => ih v1' v2' σ' (Nat.lt_of_lt_of_le hz.2 (Nat.le_of_lt_succ hlt)) hz.1
      refine zz_iload_n K 2 dX4_countPlaces_12 rfl rfl ?_
      refine zz_aload_n K 0 dX4_countPlaces_13 rfl rfl ?_
      refine zg4_7_0 K zin_X4_countPlaces_X4 zlk_X4_countPlaces_2 dX4_countPlaces_14 ?_
      refine zz_icmp_ge K 54 dX4_countPlaces_17 rfl (fun c8 => ?_) (fun c8 => ?_)
      · have h := (And.left h) c8
        refine zz_iload_n K 1 dX4_countPlaces_54 rfl rfl ?_
        exact hret _ _ rfl h _ _ dX4_countPlaces_55
      · have h := (And.right h) c8
        refine zz_aload_n K 0 dX4_countPlaces_20 rfl rfl ?_
        refine zg4_3_0 K zin_X4_countPlaces_X4 zlk_X4_countPlaces_3 dX4_countPlaces_21 ?_
        refine zz_iload_n K 2 dX4_countPlaces_24 rfl rfl ?_
        obtain ⟨hin, h⟩ := h
        refine zz_iaload K 0 (wC_at_22 ad cy σ) rfl hin dX4_countPlaces_25 ?_
        refine zz_bipush K dX4_countPlaces_26 zcCb_24 ?_
        refine zz_idiv K (by decide : ¬ (24 : Int32) = 0) dX4_countPlaces_28 ?_
        refine zz_nmi (fun x9 ex9 => ?_)
        have h := h x9 ex9
        refine zz_istore_n K [(3, .int x9), (0, .ref (ad 4)), (1, .int v1), (2, .int v2)] dX4_countPlaces_29 rfl (by decide) rfl ?_
        refine zz_iload_n K 2 dX4_countPlaces_30 rfl rfl ?_
        refine zz_iconst K dX4_countPlaces_31 zcCi_1 ?_
        refine zz_aload_n K 1 dX4_countPlaces_32 rfl rfl ?_
        refine zg4_4_0 K zin_X4_countPlaces_X4 zlk_X4_countPlaces_1 dX4_countPlaces_33 ?_
        refine zz_iload_n K 0 dX4_countPlaces_36 rfl rfl ?_
        obtain ⟨hin, h⟩ := h
        refine zz_iaload K 0 (wC_at_23 ad cy σ) rfl hin dX4_countPlaces_37 ?_
        refine zz_isub K dX4_countPlaces_38 ?_
        refine zz_iadd K dX4_countPlaces_39 ?_
        refine zz_nmi (fun x10 ex10 => ?_)
        have h := h x10 ex10
        refine zz_istore_n K [(1, .int x10), (3, .int x9), (0, .ref (ad 4)), (2, .int v2)] dX4_countPlaces_40 rfl (by decide) rfl ?_
        refine zz_aload_n K 2 dX4_countPlaces_41 rfl rfl ?_
        refine zg4_4_0 K zin_X4_countPlaces_X4 zlk_X4_countPlaces_1 dX4_countPlaces_42 ?_
        refine zz_iload_n K 1 dX4_countPlaces_45 rfl rfl ?_
        refine zz_iconst K dX4_countPlaces_46 zcCi_1 ?_
        obtain ⟨hin, h⟩ := h
        refine zz_iastore K 0 (σ2 := zz_A σ 23 (upd ((σ).2.1 23) x9.toNatClampNeg (1 : Int32))) (wC_at_23 ad cy σ) (wC_set_23 ad cy σ _) rfl hin dX4_countPlaces_47 ?_
        refine zz_nms (fun g11 eg11 => ?_)
        have h := h g11 eg11
        refine zz_iinc K 3 [(2, .int (v2 + (1 : Int32))), (1, .int x10), (3, .int x9), (0, .ref (ad 4))] dX4_countPlaces_48 zcCi_1 rfl (by decide) rfl ?_
        refine zz_goto K 12 dX4_countPlaces_51 rfl ?_
        refine zz_sub [3, 1, 0] [(0, .ref (ad 4)), (1, .int x10), (2, .int (v2 + (1 : Int32)))] rfl ?_
        exact hB12 x10 (v2 + (1 : Int32)) g11 h
  exact key _ v1 v2 σ (Nat.lt_succ_self _) h0
set_option maxHeartbeats 4000000 in
set_option maxRecDepth 100000 in
theorem zu4_countPlaces_0 {p : Program} {l : Launch} {e : Env} {s : State} {m : MethodId} {args : Array Value} {below : List Frame} {meth : Method} {c : Code} {Q : State → Prop} {D : va_G} {A : Nat → Prop} {ad : Nat → Nat} {cy : Nat → ClassId}  {σ : zz_St} (K : zz_K p s m args c cX4_countPlaces 4 RX4 wsX4_countPlaces D (tysC cy) A (wC ad cy) nwC) {Qp : Int32 → zz_St → Prop} (hret : ∀ (r : Int32) (σ2 : zz_St), narrow .int (.int r) = .int r → Qp r σ2 → ∀ (pc : Nat) (lv : List (Nat × Value)), decode cX4_countPlaces pc = .ok (.ireturn, 1) → zz_G p l e zrm4_countPlaces s m args below meth c Q D A (wC ad cy) 4 pc lv [.int r] σ2) (h : zq4_countPlaces σ Qp) : zz_G p l e zrm4_countPlaces s m args below meth c Q D A (wC ad cy) 4 0 [(0, .ref (ad 4))] [] σ := by
  unfold zq4_countPlaces at h
  refine zz_aload_n K 0 dX4_countPlaces_0 rfl rfl ?_
  refine zg4_4_0 K zin_X4_countPlaces_X4 zlk_X4_countPlaces_1 dX4_countPlaces_1 ?_
  refine zz_iconst K dX4_countPlaces_4 zcCi_0 ?_
  refine zz_fill K 0 (fun z => zz_A σ 23 z) (wC_at_23 ad cy σ) (wC_set_23 ad cy σ) rfl (by decide) gX4_countPlaces_J7_fill_53178 (Nat.le_of_ble_eq_true rfl) (Nat.le_of_ble_eq_true rfl) (Nat.le_of_ble_eq_true rfl) dX4_countPlaces_5 (fun f12 e13 => ?_)
  have h := h f12 e13
  refine zz_nms (fun g14 eg14 => ?_)
  have h := h g14 eg14
  refine zz_iconst K dX4_countPlaces_8 zcCi_0 ?_
  refine zz_istore_n K [(1, .int (0 : Int32)), (0, .ref (ad 4))] dX4_countPlaces_9 rfl (by decide) rfl ?_
  refine zz_iconst K dX4_countPlaces_10 zcCi_0 ?_
  refine zz_istore_n K [(2, .int (0 : Int32)), (1, .int (0 : Int32)), (0, .ref (ad 4))] dX4_countPlaces_11 rfl (by decide) rfl ?_
  refine zz_sub [2, 1, 0] [(0, .ref (ad 4)), (1, .int (0 : Int32)), (2, .int (0 : Int32))] rfl ?_
  exact zu4_countPlaces_12 K hret h
set_option maxRecDepth 100000 in
theorem zc4_countPlaces (l : Launch) (D : va_G) (ad : Nat → Nat) (cy : Nat → ClassId)  (σ : zz_St) (Qp : Int32 → zz_St → Prop) (h : zq4_countPlaces σ Qp) : zz_Mi l yX4_countPlaces wsX4_countPlaces zrm4_countPlaces D (tysC cy) (wC ad cy) nwC [.ref (ad 4)] σ Qp :=
  zz_Mi.of zz_nwC (wC_ad ad cy) (by decide +kernel) rfl ⟨rfl, rfl⟩ (Nat.le_of_ble_eq_true rfl) (fun p e s m args below meth c A QW K hret => zu4_countPlaces_0 K  hret h)
theorem zin_X4_farthest_X4 : ∀ w ∈ wsX40, w ∈ wsX4_farthest := fun w h => List.mem_cons_of_mem _ (List.mem_append_right _ h)
theorem zlk_X4_farthest_1 : Cond.fieldLink RX4 33 "SolidsRolled$Search" "size" "I" ∈ wsX4_farthest := List.mem_of_getElem? (i := 1) rfl
theorem zlk_X4_farthest_2 : Cond.fieldLink RX4 9 "SolidsRolled$Search" "steps" "[I" ∈ wsX4_farthest := List.mem_of_getElem? (i := 2) rfl
theorem zlk_X4_farthest_3 : Cond.fieldLink RX4 21 "SolidsRolled$Search" "queue" "[I" ∈ wsX4_farthest := List.mem_of_getElem? (i := 3) rfl
abbrev zrm4_farthest : Room := { frames := 0, cells := 0, slots := 0, locals := 0 }
set_option maxHeartbeats 4000000 in
set_option maxRecDepth 100000 in
theorem zu4_farthest_0 {p : Program} {l : Launch} {e : Env} {s : State} {m : MethodId} {args : Array Value} {below : List Frame} {meth : Method} {c : Code} {Q : State → Prop} {D : va_G} {A : Nat → Prop} {ad : Nat → Nat} {cy : Nat → ClassId}  {σ : zz_St} (K : zz_K p s m args c cX4_farthest 1 RX4 wsX4_farthest D (tysC cy) A (wC ad cy) nwC) {Qp : Int32 → Prop} (hret : ∀ (r : Int32), narrow .int (.int r) = .int r → Qp r → ∀ (pc : Nat) (lv : List (Nat × Value)), decode cX4_farthest pc = .ok (.ireturn, 1) → zz_G p l e zrm4_farthest s m args below meth c Q D A (wC ad cy) 1 pc lv [.int r] σ) (h : zq4_farthest σ Qp) : zz_G p l e zrm4_farthest s m args below meth c Q D A (wC ad cy) 1 0 [(0, .ref (ad 4))] [] σ := by
  unfold zq4_farthest at h
  refine zz_aload_n K 0 dX4_farthest_0 rfl rfl ?_
  refine zg4_7_0 K zin_X4_farthest_X4 zlk_X4_farthest_1 dX4_farthest_1 ?_
  refine zz_if_le K 26 dX4_farthest_4 rfl (fun c2 => ?_) (fun c2 => ?_)
  · have h := (And.left h) c2
    refine zz_iconst K dX4_farthest_26 zcCi_0 ?_
    exact hret _ rfl h _ _ dX4_farthest_27
  · have h := (And.right h) c2
    refine zz_aload_n K 0 dX4_farthest_7 rfl rfl ?_
    refine zg4_0_0 K zin_X4_farthest_X4 zlk_X4_farthest_2 dX4_farthest_8 ?_
    refine zz_aload_n K 0 dX4_farthest_11 rfl rfl ?_
    refine zg4_3_0 K zin_X4_farthest_X4 zlk_X4_farthest_3 dX4_farthest_12 ?_
    refine zz_aload_n K 0 dX4_farthest_15 rfl rfl ?_
    refine zg4_7_0 K zin_X4_farthest_X4 zlk_X4_farthest_1 dX4_farthest_16 ?_
    refine zz_iconst K dX4_farthest_19 zcCi_1 ?_
    refine zz_isub K dX4_farthest_20 ?_
    obtain ⟨hin, h⟩ := h
    refine zz_iaload K 0 (wC_at_22 ad cy σ) rfl hin dX4_farthest_21 ?_
    obtain ⟨hin, h⟩ := h
    refine zz_iaload K 0 (wC_at_19 ad cy σ) rfl hin dX4_farthest_22 ?_
    refine zz_goto K 27 dX4_farthest_23 rfl ?_
    exact hret _ rfl h _ _ dX4_farthest_27
set_option maxRecDepth 100000 in
theorem zc4_farthest (l : Launch) (D : va_G) (ad : Nat → Nat) (cy : Nat → ClassId)  (σ : zz_St) (Qp : Int32 → Prop) (h : zq4_farthest σ Qp) : zz_Mi l yX4_farthest wsX4_farthest zrm4_farthest D (tysC cy) (wC ad cy) nwC [.ref (ad 4)] σ (fun r σ2 => σ2 = σ ∧ Qp r) :=
  zz_Mi.of zz_nwC (wC_ad ad cy) (by decide +kernel) rfl ⟨rfl, rfl⟩ (Nat.le_of_ble_eq_true rfl) (fun p e s m args below meth c A QW K hret => zu4_farthest_0 K  (fun r hn hq pc lv hd => hret r σ hn ⟨rfl, hq⟩ pc lv hd) h)
theorem zin_X4_facesAt_X4 : ∀ w ∈ wsX40, w ∈ wsX4_facesAt := fun w h => List.mem_cons_of_mem _ (List.mem_append_left _ (List.mem_append_left _ (List.mem_append_right _ h)))
theorem zlk_X4_facesAt_1 : Cond.fieldLink RX4 33 "SolidsRolled$Search" "size" "I" ∈ wsX4_facesAt := List.mem_of_getElem? (i := 1) rfl
theorem zlk_X4_facesAt_2 : Cond.fieldLink RX4 21 "SolidsRolled$Search" "queue" "[I" ∈ wsX4_facesAt := List.mem_of_getElem? (i := 2) rfl
abbrev zrm4_facesAt : Room := { frames := 2, cells := 0, slots := 0, locals := 43 }
set_option maxHeartbeats 4000000 in
set_option maxRecDepth 100000 in
theorem zu4_facesAt_44 {p : Program} {l : Launch} {e : Env} {s : State} {m : MethodId} {args : Array Value} {below : List Frame} {meth : Method} {c : Code} {Q : State → Prop} {D : va_G} {A : Nat → Prop} {ad : Nat → Nat} {cy : Nat → ClassId} {v2 : Int32} {v3 : Int32} {v4 : Int32} {σ : zz_St} (K : zz_K p s m args c cX4_facesAt 5 RX4 wsX4_facesAt D (tysC cy) A (wC ad cy) nwC) {Qp : Int32 → Prop} (hret : ∀ (r : Int32), narrow .int (.int r) = .int r → Qp r → ∀ (pc : Nat) (lv : List (Nat × Value)), decode cX4_facesAt pc = .ok (.ireturn, 1) → zz_G p l e zrm4_facesAt s m args below meth c Q D A (wC ad cy) 5 pc lv [.int r] σ) {B5 : Int32 → Int32 → Prop} (hB5 : ∀ (v3' : Int32) (v4' : Int32), B5 v3' v4' → zz_G p l e zrm4_facesAt s m args below meth c Q D A (wC ad cy) 5 5 [(0, .ref (ad 4)), (1, .ref (ad 1)), (2, .int v2), (3, .int v3'), (4, .int v4')] [] σ) (h : zq4_facesAt_44 v2 v3 v4 σ Qp B5) : zz_G p l e zrm4_facesAt s m args below meth c Q D A (wC ad cy) 5 44 [(0, .ref (ad 4)), (1, .ref (ad 1)), (2, .int v2), (3, .int v3), (4, .int v4)] [] σ := by
  unfold zq4_facesAt_44 at h
  refine zz_iinc K 4 [(4, .int (v4 + (1 : Int32))), (0, .ref (ad 4)), (1, .ref (ad 1)), (2, .int v2), (3, .int v3)] dX4_facesAt_44 zcCi_1 rfl (by decide) rfl ?_
  refine zz_goto K 5 dX4_facesAt_47 rfl ?_
  refine zz_sub [1, 2, 3, 4, 0] [(0, .ref (ad 4)), (1, .ref (ad 1)), (2, .int v2), (3, .int v3), (4, .int (v4 + (1 : Int32)))] rfl ?_
  exact hB5 v3 (v4 + (1 : Int32)) h
set_option maxHeartbeats 4000000 in
set_option maxRecDepth 100000 in
theorem zu4_facesAt_5 {p : Program} {l : Launch} {e : Env} {s : State} {m : MethodId} {args : Array Value} {below : List Frame} {meth : Method} {c : Code} {Q : State → Prop} {D : va_G} {A : Nat → Prop} {ad : Nat → Nat} {cy : Nat → ClassId} {v2 : Int32} {v3 : Int32} {v4 : Int32} {σ : zz_St} (K : zz_K p s m args c cX4_facesAt 5 RX4 wsX4_facesAt D (tysC cy) A (wC ad cy) nwC) {Qp : Int32 → Prop} (hret : ∀ (r : Int32), narrow .int (.int r) = .int r → Qp r → ∀ (pc : Nat) (lv : List (Nat × Value)), decode cX4_facesAt pc = .ok (.ireturn, 1) → zz_G p l e zrm4_facesAt s m args below meth c Q D A (wC ad cy) 5 pc lv [.int r] σ) (h : zq4_facesAt_5 v2 v3 v4 σ Qp) : zz_G p l e zrm4_facesAt s m args below meth c Q D A (wC ad cy) 5 5 [(0, .ref (ad 4)), (1, .ref (ad 1)), (2, .int v2), (3, .int v3), (4, .int v4)] [] σ := by
  unfold zq4_facesAt_5 at h
  obtain ⟨I5, M5, h0, hs⟩ := h
  have key : ∀ (nq : Nat) (v3 : Int32) (v4 : Int32), M5 v3 v4 < nq → I5 v3 v4 → zz_G p l e zrm4_facesAt s m args below meth c Q D A (wC ad cy) 5 5 [(0, .ref (ad 4)), (1, .ref (ad 1)), (2, .int v2), (3, .int v3), (4, .int v4)] [] σ := by
    intro nq
    induction nq with
    | zero => intro v3 v4 hlt; exact absurd hlt (Nat.not_lt_zero _)
    | succ nq ih =>
      intro v3 v4 hlt hI
      have h := hs v3 v4 hI
      have hB5 : ∀ (v3' : Int32) (v4' : Int32), (fun v3' v4' => I5 v3' v4' ∧ M5 v3' v4' < M5 v3 v4) v3' v4' → zz_G p l e zrm4_facesAt s m args below meth c Q D A (wC ad cy) 5 5 [(0, .ref (ad 4)), (1, .ref (ad 1)), (2, .int v2), (3, .int v3'), (4, .int v4')] [] σ := fun v3' v4' hz => ih v3' v4' (Nat.lt_of_lt_of_le hz.2 (Nat.le_of_lt_succ hlt)) hz.1
      refine zz_iload K 4 dX4_facesAt_5 rfl ?_
      refine zz_aload_n K 0 dX4_facesAt_7 rfl rfl ?_
      refine zg4_7_0 K zin_X4_facesAt_X4 zlk_X4_facesAt_1 dX4_facesAt_8 ?_
      refine zz_icmp_ge K 50 dX4_facesAt_11 rfl (fun c5 => ?_) (fun c5 => ?_)
      · have h := (And.left h) c5
        refine zz_iload_n K 3 dX4_facesAt_50 rfl rfl ?_
        exact hret _ rfl h _ _ dX4_facesAt_51
      · have h := (And.right h) c5
        refine zz_aload_n K 0 dX4_facesAt_14 rfl rfl ?_
        refine zg4_3_0 K zin_X4_facesAt_X4 zlk_X4_facesAt_2 dX4_facesAt_15 ?_
        refine zz_iload K 4 dX4_facesAt_18 rfl ?_
        obtain ⟨hin, h⟩ := h
        refine zz_iaload K 0 (wC_at_22 ad cy σ) rfl hin dX4_facesAt_20 ?_
        refine zz_bipush K dX4_facesAt_21 zcCb_24 ?_
        refine zz_idiv K (by decide : ¬ (24 : Int32) = 0) dX4_facesAt_23 ?_
        refine zz_iload_n K 2 dX4_facesAt_24 rfl rfl ?_
        refine zz_icmp_ne K 44 dX4_facesAt_25 rfl (fun c6 => ?_) (fun c6 => ?_)
        · have h := (And.left h) c6
          exact zu4_facesAt_44 K hret hB5 h
        · have h := (And.right h) c6
          refine zz_iload_n K 3 dX4_facesAt_28 rfl rfl ?_
          refine zz_iconst K dX4_facesAt_29 zcCi_1 ?_
          refine zz_aload_n K 1 dX4_facesAt_30 rfl rfl ?_
          refine zz_aload_n K 0 dX4_facesAt_31 rfl rfl ?_
          refine zg4_3_0 K zin_X4_facesAt_X4 zlk_X4_facesAt_2 dX4_facesAt_32 ?_
          refine zz_iload K 4 dX4_facesAt_35 rfl ?_
          obtain ⟨hin, h⟩ := h
          refine zz_iaload K 0 (wC_at_22 ad cy σ) rfl hin dX4_facesAt_37 ?_
          refine zz_callVi1 K zz_nwC [.int ((σ).2.1 22 v4.toNatClampNeg)] (zc6_faceBelow l D ad cy ((σ).2.1 22 v4.toNatClampNeg) σ _  h) gX4_facesAt_X6_faceBelow rfl ⟨rfl, rfl⟩ zdsC_yX6_faceBelow_v ⟨Nat.le_of_ble_eq_true rfl, Nat.le_of_ble_eq_true rfl⟩ (wC_at_1 ad cy σ) rfl rfl rfl rfl (Nat.le_of_ble_eq_true rfl) dX4_facesAt_38 (fun r7 h => ?_)
          refine zz_ishl K dX4_facesAt_41 ?_
          refine zz_ior K dX4_facesAt_42 ?_
          refine zz_nmi (fun x8 ex8 => ?_)
          have h := h x8 ex8
          refine zz_istore_n K [(3, .int x8), (0, .ref (ad 4)), (1, .ref (ad 1)), (2, .int v2), (4, .int v4)] dX4_facesAt_43 rfl (by decide) rfl ?_
          refine zz_sub [1, 2, 3, 0, 4] [(0, .ref (ad 4)), (1, .ref (ad 1)), (2, .int v2), (3, .int x8), (4, .int v4)] rfl ?_
          exact zu4_facesAt_44 K hret hB5 h
  exact key _ v3 v4 (Nat.lt_succ_self _) h0
set_option maxHeartbeats 4000000 in
set_option maxRecDepth 100000 in
theorem zu4_facesAt_0 {p : Program} {l : Launch} {e : Env} {s : State} {m : MethodId} {args : Array Value} {below : List Frame} {meth : Method} {c : Code} {Q : State → Prop} {D : va_G} {A : Nat → Prop} {ad : Nat → Nat} {cy : Nat → ClassId} {v2 : Int32} {σ : zz_St} (K : zz_K p s m args c cX4_facesAt 5 RX4 wsX4_facesAt D (tysC cy) A (wC ad cy) nwC) {Qp : Int32 → Prop} (hret : ∀ (r : Int32), narrow .int (.int r) = .int r → Qp r → ∀ (pc : Nat) (lv : List (Nat × Value)), decode cX4_facesAt pc = .ok (.ireturn, 1) → zz_G p l e zrm4_facesAt s m args below meth c Q D A (wC ad cy) 5 pc lv [.int r] σ) (h : zq4_facesAt v2 σ Qp) : zz_G p l e zrm4_facesAt s m args below meth c Q D A (wC ad cy) 5 0 [(0, .ref (ad 4)), (1, .ref (ad 1)), (2, .int v2)] [] σ := by
  unfold zq4_facesAt at h
  refine zz_iconst K dX4_facesAt_0 zcCi_0 ?_
  refine zz_istore_n K [(3, .int (0 : Int32)), (0, .ref (ad 4)), (1, .ref (ad 1)), (2, .int v2)] dX4_facesAt_1 rfl (by decide) rfl ?_
  refine zz_iconst K dX4_facesAt_2 zcCi_0 ?_
  refine zz_istore K [(4, .int (0 : Int32)), (3, .int (0 : Int32)), (0, .ref (ad 4)), (1, .ref (ad 1)), (2, .int v2)] dX4_facesAt_3 (by decide) rfl ?_
  refine zz_sub [2, 3, 4, 1, 0] [(0, .ref (ad 4)), (1, .ref (ad 1)), (2, .int v2), (3, .int (0 : Int32)), (4, .int (0 : Int32))] rfl ?_
  exact zu4_facesAt_5 K hret h
set_option maxRecDepth 100000 in
theorem zc4_facesAt (l : Launch) (D : va_G) (ad : Nat → Nat) (cy : Nat → ClassId) (v2 : Int32) (σ : zz_St) (Qp : Int32 → Prop) (h : zq4_facesAt v2 σ Qp) : zz_Mi l yX4_facesAt wsX4_facesAt zrm4_facesAt D (tysC cy) (wC ad cy) nwC [.ref (ad 4), .ref (ad 1), .int v2] σ (fun r σ2 => σ2 = σ ∧ Qp r) :=
  zz_Mi.of zz_nwC (wC_ad ad cy) (by decide +kernel) rfl ⟨rfl, rfl⟩ (Nat.le_of_ble_eq_true rfl) (fun p e s m args below meth c A QW K hret => zu4_facesAt_0 K  (fun r hn hq pc lv hd => hret r σ hn ⟨rfl, hq⟩ pc lv hd) h)
theorem zin_X4_hasEven_X4 : ∀ w ∈ wsX40, w ∈ wsX4_hasEven := fun w h => List.mem_cons_of_mem _ (List.mem_append_left _ (List.mem_append_left _ (List.mem_append_right _ h)))
theorem zlk_X4_hasEven_1 : Cond.fieldLink RX4 33 "SolidsRolled$Search" "size" "I" ∈ wsX4_hasEven := List.mem_of_getElem? (i := 1) rfl
theorem zlk_X4_hasEven_2 : Cond.fieldLink RX4 21 "SolidsRolled$Search" "queue" "[I" ∈ wsX4_hasEven := List.mem_of_getElem? (i := 2) rfl
theorem zlk_X4_hasEven_3 : Cond.fieldLink RX4 9 "SolidsRolled$Search" "steps" "[I" ∈ wsX4_hasEven := List.mem_of_getElem? (i := 3) rfl
theorem zdsC_yX4_floodAll_v : yX4_floodAll.cls = RX4 ∧ yX4_floodAll.cls ≠ "java/lang/invoke/MethodHandle" ∧ yX4_floodAll.cls ≠ "java/lang/invoke/VarHandle" ∧ (parseMethodDescriptor yX4_floodAll.desc).map (fun d => d.parameters.length) = some 1 := by decide +kernel
abbrev zrm4_hasEven : Room := { frames := 5, cells := 0, slots := 0, locals := 125 }
set_option maxHeartbeats 4000000 in
set_option maxRecDepth 100000 in
theorem zu4_hasEven_68 {p : Program} {l : Launch} {e : Env} {s : State} {m : MethodId} {args : Array Value} {below : List Frame} {meth : Method} {c : Code} {Q : State → Prop} {D : va_G} {A : Nat → Prop} {ad : Nat → Nat} {cy : Nat → ClassId} {v2 : Int32} {v3 : Int32} {σ : zz_St} (K : zz_K p s m args c cX4_hasEven 5 RX4 wsX4_hasEven D (tysC cy) A (wC ad cy) nwC) {Qp : Int32 → zz_St → Prop} (hret : ∀ (r : Int32) (σ2 : zz_St), narrow .boolean (.int r) = .int r → Qp r σ2 → ∀ (pc : Nat) (lv : List (Nat × Value)), decode cX4_hasEven pc = .ok (.ireturn, 1) → zz_G p l e zrm4_hasEven s m args below meth c Q D A (wC ad cy) 5 pc lv [.int r] σ2) {B7 : Int32 → Prop} (hB7 : ∀ (v2' : Int32), B7 v2' → zz_G p l e zrm4_hasEven s m args below meth c Q D A (wC ad cy) 5 7 [(0, .ref (ad 4)), (1, .ref (ad 1)), (2, .int v2')] [] σ) {B17 : Int32 → Prop} (hB17 : ∀ (v3' : Int32), B17 v3' → zz_G p l e zrm4_hasEven s m args below meth c Q D A (wC ad cy) 5 17 [(0, .ref (ad 4)), (1, .ref (ad 1)), (2, .int v2), (3, .int v3')] [] σ) (h : zq4_hasEven_68 v2 v3 σ Qp B7 B17) : zz_G p l e zrm4_hasEven s m args below meth c Q D A (wC ad cy) 5 68 [(0, .ref (ad 4)), (1, .ref (ad 1)), (2, .int v2), (3, .int v3)] [] σ := by
  unfold zq4_hasEven_68 at h
  refine zz_iinc K 3 [(3, .int (v3 + (1 : Int32))), (0, .ref (ad 4)), (1, .ref (ad 1)), (2, .int v2)] dX4_hasEven_68 zcCi_1 rfl (by decide) rfl ?_
  refine zz_goto K 17 dX4_hasEven_71 rfl ?_
  refine zz_sub [1, 2, 3, 0] [(0, .ref (ad 4)), (1, .ref (ad 1)), (2, .int v2), (3, .int (v3 + (1 : Int32)))] rfl ?_
  exact hB17 (v3 + (1 : Int32)) h
set_option maxHeartbeats 4000000 in
set_option maxRecDepth 100000 in
theorem zu4_hasEven_17 {p : Program} {l : Launch} {e : Env} {s : State} {m : MethodId} {args : Array Value} {below : List Frame} {meth : Method} {c : Code} {Q : State → Prop} {D : va_G} {A : Nat → Prop} {ad : Nat → Nat} {cy : Nat → ClassId} {v2 : Int32} {v3 : Int32} {σ : zz_St} (K : zz_K p s m args c cX4_hasEven 5 RX4 wsX4_hasEven D (tysC cy) A (wC ad cy) nwC) {Qp : Int32 → zz_St → Prop} (hret : ∀ (r : Int32) (σ2 : zz_St), narrow .boolean (.int r) = .int r → Qp r σ2 → ∀ (pc : Nat) (lv : List (Nat × Value)), decode cX4_hasEven pc = .ok (.ireturn, 1) → zz_G p l e zrm4_hasEven s m args below meth c Q D A (wC ad cy) 5 pc lv [.int r] σ2) {B7 : Int32 → Prop} (hB7 : ∀ (v2' : Int32), B7 v2' → zz_G p l e zrm4_hasEven s m args below meth c Q D A (wC ad cy) 5 7 [(0, .ref (ad 4)), (1, .ref (ad 1)), (2, .int v2')] [] σ) (h : zq4_hasEven_17 v2 v3 σ Qp B7) : zz_G p l e zrm4_hasEven s m args below meth c Q D A (wC ad cy) 5 17 [(0, .ref (ad 4)), (1, .ref (ad 1)), (2, .int v2), (3, .int v3)] [] σ := by
  unfold zq4_hasEven_17 at h
  obtain ⟨I17, M17, h0, hs⟩ := h
  have key : ∀ (nq : Nat) (v3 : Int32), M17 v3 < nq → I17 v3 → zz_G p l e zrm4_hasEven s m args below meth c Q D A (wC ad cy) 5 17 [(0, .ref (ad 4)), (1, .ref (ad 1)), (2, .int v2), (3, .int v3)] [] σ := by
    intro nq
    induction nq with
    | zero => intro v3 hlt; exact absurd hlt (Nat.not_lt_zero _)
    | succ nq ih =>
      intro v3 hlt hI
      have h := hs v3 hI
      have hB17 : ∀ (v3' : Int32), (fun v3' => I17 v3' ∧ M17 v3' < M17 v3) v3' → zz_G p l e zrm4_hasEven s m args below meth c Q D A (wC ad cy) 5 17 [(0, .ref (ad 4)), (1, .ref (ad 1)), (2, .int v2), (3, .int v3')] [] σ := fun v3' hz => ih v3' (Nat.lt_of_lt_of_le hz.2 (Nat.le_of_lt_succ hlt)) hz.1
      refine zz_iload_n K 3 dX4_hasEven_17 rfl rfl ?_
      refine zz_iconst K dX4_hasEven_18 zcCi_4 ?_
      refine zz_icmp_ge K 74 dX4_hasEven_19 rfl (fun c7 => ?_) (fun c7 => ?_)
      · have h := (And.left h) c7
        refine zz_iinc K 2 [(2, .int (v2 + (1 : Int32))), (0, .ref (ad 4)), (1, .ref (ad 1)), (3, .int v3)] dX4_hasEven_74 zcCi_1 rfl (by decide) rfl ?_
        refine zz_goto K 7 dX4_hasEven_77 rfl ?_
        refine zz_sub [1, 2, 0] [(0, .ref (ad 4)), (1, .ref (ad 1)), (2, .int (v2 + (1 : Int32)))] rfl ?_
        exact hB7 (v2 + (1 : Int32)) h
      · have h := (And.right h) c7
        refine zz_aload_n K 1 dX4_hasEven_22 rfl rfl ?_
        refine zz_aload_n K 0 dX4_hasEven_23 rfl rfl ?_
        refine zg4_3_0 K zin_X4_hasEven_X4 zlk_X4_hasEven_2 dX4_hasEven_24 ?_
        refine zz_iload_n K 2 dX4_hasEven_27 rfl rfl ?_
        obtain ⟨hin, h⟩ := h
        refine zz_iaload K 0 (wC_at_22 ad cy σ) rfl hin dX4_hasEven_28 ?_
        refine zz_iload_n K 3 dX4_hasEven_29 rfl rfl ?_
        refine zz_callVi1 K zz_nwC [.int ((σ).2.1 22 v2.toNatClampNeg), .int v3] (zc6_rolled l D ad cy ((σ).2.1 22 v2.toNatClampNeg) v3 σ _  h) gX4_hasEven_X6_rolled rfl ⟨rfl, rfl⟩ zdsC_yX6_rolled_v ⟨Nat.le_of_ble_eq_true rfl, Nat.le_of_ble_eq_true rfl⟩ (wC_at_1 ad cy σ) rfl rfl rfl rfl (Nat.le_of_ble_eq_true rfl) dX4_hasEven_30 (fun r8 h => ?_)
        refine zz_istore K [(4, .int r8), (0, .ref (ad 4)), (1, .ref (ad 1)), (2, .int v2), (3, .int v3)] dX4_hasEven_33 (by decide) rfl ?_
        refine zz_iload K 0 dX4_hasEven_35 rfl ?_
        refine zz_if_lt K 68 dX4_hasEven_37 rfl (fun c9 => ?_) (fun c9 => ?_)
        · have h := (And.left h) c9
          refine zz_sub [1, 2, 3, 4] [(0, .ref (ad 4)), (1, .ref (ad 1)), (2, .int v2), (3, .int v3)] rfl ?_
          exact zu4_hasEven_68 K hret hB7 hB17 h
        · have h := (And.right h) c9
          refine zz_aload_n K 1 dX4_hasEven_40 rfl rfl ?_
          refine zg4_0_0 K zin_X4_hasEven_X4 zlk_X4_hasEven_3 dX4_hasEven_41 ?_
          refine zz_aload_n K 1 dX4_hasEven_44 rfl rfl ?_
          refine zg4_3_0 K zin_X4_hasEven_X4 zlk_X4_hasEven_2 dX4_hasEven_45 ?_
          refine zz_iload_n K 3 dX4_hasEven_48 rfl rfl ?_
          obtain ⟨hin, h⟩ := h
          refine zz_iaload K 0 (wC_at_22 ad cy σ) rfl hin dX4_hasEven_49 ?_
          obtain ⟨hin, h⟩ := h
          refine zz_iaload K 0 (wC_at_19 ad cy σ) rfl hin dX4_hasEven_50 ?_
          refine zz_iconst K dX4_hasEven_51 zcCi_1 ?_
          refine zz_iadd K dX4_hasEven_52 ?_
          refine zz_aload_n K 1 dX4_hasEven_53 rfl rfl ?_
          refine zg4_0_0 K zin_X4_hasEven_X4 zlk_X4_hasEven_3 dX4_hasEven_54 ?_
          refine zz_iload K 0 dX4_hasEven_57 rfl ?_
          obtain ⟨hin, h⟩ := h
          refine zz_iaload K 0 (wC_at_19 ad cy σ) rfl hin dX4_hasEven_59 ?_
          refine zz_isub K dX4_hasEven_60 ?_
          refine zz_iconst K dX4_hasEven_61 zcCi_2 ?_
          refine zz_irem K (by decide : ¬ (2 : Int32) = 0) dX4_hasEven_62 ?_
          refine zz_if_eq K 68 dX4_hasEven_63 rfl (fun c10 => ?_) (fun c10 => ?_)
          · have h := (And.left h) c10
            refine zz_sub [1, 2, 3, 4] [(0, .ref (ad 4)), (1, .ref (ad 1)), (2, .int v2), (3, .int v3)] rfl ?_
            exact zu4_hasEven_68 K hret hB7 hB17 h
          · have h := (And.right h) c10
            refine zz_iconst K dX4_hasEven_66 zcCi_1 ?_
            exact hret _ _ rfl h _ _ dX4_hasEven_67
  exact key _ v3 (Nat.lt_succ_self _) h0
set_option maxHeartbeats 4000000 in
set_option maxRecDepth 100000 in
theorem zu4_hasEven_7 {p : Program} {l : Launch} {e : Env} {s : State} {m : MethodId} {args : Array Value} {below : List Frame} {meth : Method} {c : Code} {Q : State → Prop} {D : va_G} {A : Nat → Prop} {ad : Nat → Nat} {cy : Nat → ClassId} {v2 : Int32} {σ : zz_St} (K : zz_K p s m args c cX4_hasEven 5 RX4 wsX4_hasEven D (tysC cy) A (wC ad cy) nwC) {Qp : Int32 → zz_St → Prop} (hret : ∀ (r : Int32) (σ2 : zz_St), narrow .boolean (.int r) = .int r → Qp r σ2 → ∀ (pc : Nat) (lv : List (Nat × Value)), decode cX4_hasEven pc = .ok (.ireturn, 1) → zz_G p l e zrm4_hasEven s m args below meth c Q D A (wC ad cy) 5 pc lv [.int r] σ2) (h : zq4_hasEven_7 v2 σ Qp) : zz_G p l e zrm4_hasEven s m args below meth c Q D A (wC ad cy) 5 7 [(0, .ref (ad 4)), (1, .ref (ad 1)), (2, .int v2)] [] σ := by
  unfold zq4_hasEven_7 at h
  obtain ⟨I7, M7, h0, hs⟩ := h
  have key : ∀ (nq : Nat) (v2 : Int32), M7 v2 < nq → I7 v2 → zz_G p l e zrm4_hasEven s m args below meth c Q D A (wC ad cy) 5 7 [(0, .ref (ad 4)), (1, .ref (ad 1)), (2, .int v2)] [] σ := by
    intro nq
    induction nq with
    | zero => intro v2 hlt; exact absurd hlt (Nat.not_lt_zero _)
    | succ nq ih =>
      intro v2 hlt hI
      have h := hs v2 hI
      have hB7 : ∀ (v2' : Int32), (fun v2' => I7 v2' ∧ M7 v2' < M7 v2) v2' → zz_G p l e zrm4_hasEven s m args below meth c Q D A (wC ad cy) 5 7 [(0, .ref (ad 4)), (1, .ref (ad 1)), (2, .int v2')] [] σ := fun v2' hz => ih v2' (Nat.lt_of_lt_of_le hz.2 (Nat.le_of_lt_succ hlt)) hz.1
      refine zz_iload_n K 2 dX4_hasEven_7 rfl rfl ?_
      refine zz_aload_n K 0 dX4_hasEven_8 rfl rfl ?_
      refine zg4_7_0 K zin_X4_hasEven_X4 zlk_X4_hasEven_1 dX4_hasEven_9 ?_
      refine zz_icmp_ge K 80 dX4_hasEven_12 rfl (fun c11 => ?_) (fun c11 => ?_)
      · have h := (And.left h) c11
        refine zz_iconst K dX4_hasEven_80 zcCi_0 ?_
        exact hret _ _ rfl h _ _ dX4_hasEven_81
      · have h := (And.right h) c11
        refine zz_iconst K dX4_hasEven_15 zcCi_0 ?_
        refine zz_istore_n K [(3, .int (0 : Int32)), (0, .ref (ad 4)), (1, .ref (ad 1)), (2, .int v2)] dX4_hasEven_16 rfl (by decide) rfl ?_
        refine zz_sub [1, 2, 3, 0] [(0, .ref (ad 4)), (1, .ref (ad 1)), (2, .int v2), (3, .int (0 : Int32))] rfl ?_
        exact zu4_hasEven_17 K hret hB7 h
  exact key _ v2 (Nat.lt_succ_self _) h0
set_option maxHeartbeats 4000000 in
set_option maxRecDepth 100000 in
theorem zu4_hasEven_0 {p : Program} {l : Launch} {e : Env} {s : State} {m : MethodId} {args : Array Value} {below : List Frame} {meth : Method} {c : Code} {Q : State → Prop} {D : va_G} {A : Nat → Prop} {ad : Nat → Nat} {cy : Nat → ClassId}  {σ : zz_St} (K : zz_K p s m args c cX4_hasEven 5 RX4 wsX4_hasEven D (tysC cy) A (wC ad cy) nwC) {Qp : Int32 → zz_St → Prop} (hret : ∀ (r : Int32) (σ2 : zz_St), narrow .boolean (.int r) = .int r → Qp r σ2 → ∀ (pc : Nat) (lv : List (Nat × Value)), decode cX4_hasEven pc = .ok (.ireturn, 1) → zz_G p l e zrm4_hasEven s m args below meth c Q D A (wC ad cy) 5 pc lv [.int r] σ2) (h : zq4_hasEven σ Qp) : zz_G p l e zrm4_hasEven s m args below meth c Q D A (wC ad cy) 5 0 [(0, .ref (ad 4)), (1, .ref (ad 1))] [] σ := by
  unfold zq4_hasEven at h
  refine zz_aload_n K 0 dX4_hasEven_0 rfl rfl ?_
  refine zz_aload_n K 1 dX4_hasEven_1 rfl rfl ?_
  refine zz_callVv K zz_nwC [.ref (ad 1)] (zc4_floodAll l D ad cy  σ _  h) gX4_hasEven_X4_floodAll rfl ⟨rfl, rfl⟩ zdsC_yX4_floodAll_v ⟨Nat.le_of_ble_eq_true rfl, Nat.le_of_ble_eq_true rfl⟩ (wC_at_4 ad cy σ) rfl rfl rfl rfl (Nat.le_of_ble_eq_true rfl) dX4_hasEven_2 (fun g12 h => ?_)
  refine zz_iconst K dX4_hasEven_5 zcCi_0 ?_
  refine zz_istore_n K [(2, .int (0 : Int32)), (0, .ref (ad 4)), (1, .ref (ad 1))] dX4_hasEven_6 rfl (by decide) rfl ?_
  refine zz_sub [1, 2, 0] [(0, .ref (ad 4)), (1, .ref (ad 1)), (2, .int (0 : Int32))] rfl ?_
  exact zu4_hasEven_7 K hret h
set_option maxRecDepth 100000 in
theorem zc4_hasEven (l : Launch) (D : va_G) (ad : Nat → Nat) (cy : Nat → ClassId)  (σ : zz_St) (Qp : Int32 → zz_St → Prop) (h : zq4_hasEven σ Qp) : zz_Mi l yX4_hasEven wsX4_hasEven zrm4_hasEven D (tysC cy) (wC ad cy) nwC [.ref (ad 4), .ref (ad 1)] σ Qp :=
  zz_Mi.of zz_nwC (wC_ad ad cy) (by decide +kernel) rfl ⟨rfl, rfl⟩ (Nat.le_of_ble_eq_true rfl) (fun p e s m args below meth c A QW K hret => zu4_hasEven_0 K  hret h)
theorem zin_X6_tileCount_X6 : ∀ w ∈ wsX60, w ∈ wsX6_tileCount := fun w h => List.mem_cons_of_mem _ (List.mem_append_right _ h)
theorem zlk_X6_tileCount_1 : Cond.fieldLink RX6 31 "SolidsRolled$World" "rows" "I" ∈ wsX6_tileCount := List.mem_of_getElem? (i := 1) rfl
theorem zlk_X6_tileCount_2 : Cond.fieldLink RX6 35 "SolidsRolled$World" "columns" "I" ∈ wsX6_tileCount := List.mem_of_getElem? (i := 2) rfl
abbrev zrm6_tileCount : Room := { frames := 0, cells := 0, slots := 0, locals := 0 }
set_option maxHeartbeats 4000000 in
set_option maxRecDepth 100000 in
theorem zu6_tileCount_0 {p : Program} {l : Launch} {e : Env} {s : State} {m : MethodId} {args : Array Value} {below : List Frame} {meth : Method} {c : Code} {Q : State → Prop} {D : va_G} {A : Nat → Prop} {ad : Nat → Nat} {cy : Nat → ClassId}  {σ : zz_St} (K : zz_K p s m args c cX6_tileCount 1 RX6 wsX6_tileCount D (tysC cy) A (wC ad cy) nwC) {Qp : Int32 → Prop} (hret : ∀ (r : Int32), narrow .int (.int r) = .int r → Qp r → ∀ (pc : Nat) (lv : List (Nat × Value)), decode cX6_tileCount pc = .ok (.ireturn, 1) → zz_G p l e zrm6_tileCount s m args below meth c Q D A (wC ad cy) 1 pc lv [.int r] σ) (h : zq6_tileCount σ Qp) : zz_G p l e zrm6_tileCount s m args below meth c Q D A (wC ad cy) 1 0 [(0, .ref (ad 1))] [] σ := by
  unfold zq6_tileCount at h
  refine zz_aload_n K 0 dX6_tileCount_0 rfl rfl ?_
  refine zg6_4_0 K zin_X6_tileCount_X6 zlk_X6_tileCount_1 dX6_tileCount_1 ?_
  refine zz_aload_n K 0 dX6_tileCount_4 rfl rfl ?_
  refine zg6_5_0 K zin_X6_tileCount_X6 zlk_X6_tileCount_2 dX6_tileCount_5 ?_
  refine zz_imul K dX6_tileCount_8 ?_
  exact hret _ rfl h _ _ dX6_tileCount_9
set_option maxRecDepth 100000 in
theorem zc6_tileCount (l : Launch) (D : va_G) (ad : Nat → Nat) (cy : Nat → ClassId)  (σ : zz_St) (Qp : Int32 → Prop) (h : zq6_tileCount σ Qp) : zz_Mi l yX6_tileCount wsX6_tileCount zrm6_tileCount D (tysC cy) (wC ad cy) nwC [.ref (ad 1)] σ (fun r σ2 => σ2 = σ ∧ Qp r) :=
  zz_Mi.of zz_nwC (wC_ad ad cy) (by decide +kernel) rfl ⟨rfl, rfl⟩ (Nat.le_of_ble_eq_true rfl) (fun p e s m args below meth c A QW K hret => zu6_tileCount_0 K  (fun r hn hq pc lv hd => hret r σ hn ⟨rfl, hq⟩ pc lv hd) h)
theorem zin_X4_statesFilled_X6 : ∀ w ∈ wsX60, w ∈ wsX4_statesFilled := fun w h => List.mem_cons_of_mem _ (List.mem_append_left _ (List.mem_append_left _ (List.mem_append_right _ h)))
theorem zlk_X4_statesFilled_1 : Cond.fieldLink RX4 76 "SolidsRolled$World" "tiles" "[I" ∈ wsX4_statesFilled := List.mem_of_getElem? (i := 1) rfl
theorem zin_X4_statesFilled_X4 : ∀ w ∈ wsX40, w ∈ wsX4_statesFilled := fun w h => List.mem_cons_of_mem _ (List.mem_append_left _ (List.mem_append_right _ h))
theorem zlk_X4_statesFilled_2 : Cond.fieldLink RX4 33 "SolidsRolled$Search" "size" "I" ∈ wsX4_statesFilled := List.mem_of_getElem? (i := 2) rfl
abbrev zrm4_statesFilled : Room := { frames := 4, cells := 0, slots := 0, locals := 104 }
set_option maxHeartbeats 4000000 in
set_option maxRecDepth 100000 in
theorem zu4_statesFilled_0 {p : Program} {l : Launch} {e : Env} {s : State} {m : MethodId} {args : Array Value} {below : List Frame} {meth : Method} {c : Code} {Q : State → Prop} {D : va_G} {A : Nat → Prop} {ad : Nat → Nat} {cy : Nat → ClassId} {v2 : Int32} {σ : zz_St} (K : zz_K p s m args c cX4_statesFilled 3 RX4 wsX4_statesFilled D (tysC cy) A (wC ad cy) nwC) {Qp : Int32 → zz_St → Prop} (hret : ∀ (r : Int32) (σ2 : zz_St), narrow .int (.int r) = .int r → Qp r σ2 → ∀ (pc : Nat) (lv : List (Nat × Value)), decode cX4_statesFilled pc = .ok (.ireturn, 1) → zz_G p l e zrm4_statesFilled s m args below meth c Q D A (wC ad cy) 3 pc lv [.int r] σ2) (h : zq4_statesFilled v2 σ Qp) : zz_G p l e zrm4_statesFilled s m args below meth c Q D A (wC ad cy) 3 0 [(0, .ref (ad 4)), (1, .ref (ad 1)), (2, .int v2)] [] σ := by
  unfold zq4_statesFilled at h
  refine zz_aload_n K 1 dX4_statesFilled_0 rfl rfl ?_
  refine zg6_2_0 K zin_X4_statesFilled_X6 zlk_X4_statesFilled_1 dX4_statesFilled_1 ?_
  refine zz_iload_n K 2 dX4_statesFilled_4 rfl rfl ?_
  refine zz_iconst K dX4_statesFilled_5 zcCi_0 ?_
  obtain ⟨hin, h⟩ := h
  refine zz_iastore K 0 (σ2 := zz_A σ 14 (upd ((σ).2.1 14) v2.toNatClampNeg (0 : Int32))) (wC_at_14 ad cy σ) (wC_set_14 ad cy σ _) rfl hin dX4_statesFilled_6 ?_
  refine zz_nms (fun g5 eg5 => ?_)
  have h := h g5 eg5
  refine zz_aload_n K 0 dX4_statesFilled_7 rfl rfl ?_
  refine zz_aload_n K 1 dX4_statesFilled_8 rfl rfl ?_
  refine zz_iconst K dX4_statesFilled_9 zcCi_m1 ?_
  refine zz_iconst K dX4_statesFilled_10 zcCi_m1 ?_
  refine zz_callVi K zz_nwC [.ref (ad 1), .int (-1 : Int32), .int (-1 : Int32)] (zc4_floodTo l D ad cy (-1 : Int32) (-1 : Int32) g5 _  h) gX4_statesFilled_X4_floodTo rfl ⟨rfl, rfl⟩ zdsC_yX4_floodTo_v ⟨Nat.le_of_ble_eq_true rfl, Nat.le_of_ble_eq_true rfl⟩ (wC_at_4 ad cy g5) rfl rfl rfl rfl (Nat.le_of_ble_eq_true rfl) dX4_statesFilled_11 (fun r6 g7 h => ?_)
  refine zz_pop K rfl dX4_statesFilled_14 ?_
  refine zz_aload_n K 1 dX4_statesFilled_15 rfl rfl ?_
  refine zg6_2_0 K zin_X4_statesFilled_X6 zlk_X4_statesFilled_1 dX4_statesFilled_16 ?_
  refine zz_iload_n K 2 dX4_statesFilled_19 rfl rfl ?_
  refine zz_iconst K dX4_statesFilled_20 zcCi_1 ?_
  obtain ⟨hin, h⟩ := h
  refine zz_iastore K 0 (σ2 := zz_A g7 14 (upd (g7.2.1 14) v2.toNatClampNeg (1 : Int32))) (wC_at_14 ad cy g7) (wC_set_14 ad cy g7 _) rfl hin dX4_statesFilled_21 ?_
  refine zz_nms (fun g8 eg8 => ?_)
  have h := h g8 eg8
  refine zz_aload_n K 0 dX4_statesFilled_22 rfl rfl ?_
  refine zg4_7_0 K zin_X4_statesFilled_X4 zlk_X4_statesFilled_2 dX4_statesFilled_23 ?_
  exact hret _ _ rfl h _ _ dX4_statesFilled_26
set_option maxRecDepth 100000 in
theorem zc4_statesFilled (l : Launch) (D : va_G) (ad : Nat → Nat) (cy : Nat → ClassId) (v2 : Int32) (σ : zz_St) (Qp : Int32 → zz_St → Prop) (h : zq4_statesFilled v2 σ Qp) : zz_Mi l yX4_statesFilled wsX4_statesFilled zrm4_statesFilled D (tysC cy) (wC ad cy) nwC [.ref (ad 4), .ref (ad 1), .int v2] σ Qp :=
  zz_Mi.of zz_nwC (wC_ad ad cy) (by decide +kernel) rfl ⟨rfl, rfl⟩ (Nat.le_of_ble_eq_true rfl) (fun p e s m args below meth c A QW K hret => zu4_statesFilled_0 K  hret h)
theorem zin_X4_bestFilled_X4 : ∀ w ∈ wsX40, w ∈ wsX4_bestFilled := fun w h => List.mem_cons_of_mem _ (List.mem_append_left _ (List.mem_append_left _ (List.mem_append_right _ h)))
theorem zlk_X4_bestFilled_1 : Cond.fieldLink RX4 33 "SolidsRolled$Search" "size" "I" ∈ wsX4_bestFilled := List.mem_of_getElem? (i := 1) rfl
theorem zin_X4_bestFilled_X6 : ∀ w ∈ wsX60, w ∈ wsX4_bestFilled := fun w h => List.mem_cons_of_mem _ (List.mem_append_left _ (List.mem_append_right _ h))
theorem zlk_X4_bestFilled_2 : Cond.fieldLink RX4 76 "SolidsRolled$World" "tiles" "[I" ∈ wsX4_bestFilled := List.mem_of_getElem? (i := 2) rfl
theorem zdsC_yX4_statesFilled_v : yX4_statesFilled.cls = RX4 ∧ yX4_statesFilled.cls ≠ "java/lang/invoke/MethodHandle" ∧ yX4_statesFilled.cls ≠ "java/lang/invoke/VarHandle" ∧ (parseMethodDescriptor yX4_statesFilled.desc).map (fun d => d.parameters.length) = some 2 := by decide +kernel
theorem zdsC_yX6_tileCount_v : yX6_tileCount.cls = RX6 ∧ yX6_tileCount.cls ≠ "java/lang/invoke/MethodHandle" ∧ yX6_tileCount.cls ≠ "java/lang/invoke/VarHandle" ∧ (parseMethodDescriptor yX6_tileCount.desc).map (fun d => d.parameters.length) = some 0 := by decide +kernel
abbrev zrm4_bestFilled : Room := { frames := 5, cells := 0, slots := 0, locals := 126 }
set_option maxHeartbeats 4000000 in
set_option maxRecDepth 100000 in
theorem zu4_bestFilled_60 {p : Program} {l : Launch} {e : Env} {s : State} {m : MethodId} {args : Array Value} {below : List Frame} {meth : Method} {c : Code} {Q : State → Prop} {D : va_G} {A : Nat → Prop} {ad : Nat → Nat} {cy : Nat → ClassId} {v2 : Int32} {v3 : Int32} {v4 : Int32} {σ : zz_St} (K : zz_K p s m args c cX4_bestFilled 6 RX4 wsX4_bestFilled D (tysC cy) A (wC ad cy) nwC) {Qp : Int32 → zz_St → Prop} (hret : ∀ (r : Int32) (σ2 : zz_St), narrow .int (.int r) = .int r → Qp r σ2 → ∀ (pc : Nat) (lv : List (Nat × Value)), decode cX4_bestFilled pc = .ok (.ireturn, 1) → zz_G p l e zrm4_bestFilled s m args below meth c Q D A (wC ad cy) 6 pc lv [.int r] σ2) {B15 : Int32 → Int32 → Int32 → zz_St → Prop} (hB15 : ∀ (v2' : Int32) (v3' : Int32) (v4' : Int32) (σ' : zz_St), B15 v2' v3' v4' σ' → zz_G p l e zrm4_bestFilled s m args below meth c Q D A (wC ad cy) 6 15 [(0, .ref (ad 4)), (1, .ref (ad 1)), (2, .int v2'), (3, .int v3'), (4, .int v4')] [] σ') (h : zq4_bestFilled_60 v2 v3 v4 σ Qp B15) : zz_G p l e zrm4_bestFilled s m args below meth c Q D A (wC ad cy) 6 60 [(0, .ref (ad 4)), (1, .ref (ad 1)), (2, .int v2), (3, .int v3), (4, .int v4)] [] σ := by
  unfold zq4_bestFilled_60 at h
  refine zz_iinc K 4 [(4, .int (v4 + (1 : Int32))), (0, .ref (ad 4)), (1, .ref (ad 1)), (2, .int v2), (3, .int v3)] dX4_bestFilled_60 zcCi_1 rfl (by decide) rfl ?_
  refine zz_goto K 15 dX4_bestFilled_63 rfl ?_
  refine zz_sub [1, 2, 3, 4, 0] [(0, .ref (ad 4)), (1, .ref (ad 1)), (2, .int v2), (3, .int v3), (4, .int (v4 + (1 : Int32)))] rfl ?_
  exact hB15 v2 v3 (v4 + (1 : Int32)) σ h
set_option maxHeartbeats 4000000 in
set_option maxRecDepth 100000 in
theorem zu4_bestFilled_46 {p : Program} {l : Launch} {e : Env} {s : State} {m : MethodId} {args : Array Value} {below : List Frame} {meth : Method} {c : Code} {Q : State → Prop} {D : va_G} {A : Nat → Prop} {ad : Nat → Nat} {cy : Nat → ClassId} {v2 : Int32} {v3 : Int32} {v4 : Int32} {s0 : Int32} {σ : zz_St} (K : zz_K p s m args c cX4_bestFilled 6 RX4 wsX4_bestFilled D (tysC cy) A (wC ad cy) nwC) {Qp : Int32 → zz_St → Prop} (hret : ∀ (r : Int32) (σ2 : zz_St), narrow .int (.int r) = .int r → Qp r σ2 → ∀ (pc : Nat) (lv : List (Nat × Value)), decode cX4_bestFilled pc = .ok (.ireturn, 1) → zz_G p l e zrm4_bestFilled s m args below meth c Q D A (wC ad cy) 6 pc lv [.int r] σ2) {B15 : Int32 → Int32 → Int32 → zz_St → Prop} (hB15 : ∀ (v2' : Int32) (v3' : Int32) (v4' : Int32) (σ' : zz_St), B15 v2' v3' v4' σ' → zz_G p l e zrm4_bestFilled s m args below meth c Q D A (wC ad cy) 6 15 [(0, .ref (ad 4)), (1, .ref (ad 1)), (2, .int v2'), (3, .int v3'), (4, .int v4')] [] σ') (h : zq4_bestFilled_46 v2 v3 v4 s0 σ Qp B15) : zz_G p l e zrm4_bestFilled s m args below meth c Q D A (wC ad cy) 6 46 [(0, .ref (ad 4)), (1, .ref (ad 1)), (2, .int v2), (3, .int v3), (4, .int v4)] [.int s0] σ := by
  unfold zq4_bestFilled_46 at h
  refine zz_istore K [(5, .int s0), (0, .ref (ad 4)), (1, .ref (ad 1)), (2, .int v2), (3, .int v3), (4, .int v4)] dX4_bestFilled_46 (by decide) rfl ?_
  refine zz_iload K 0 dX4_bestFilled_48 rfl ?_
  refine zz_iload_n K 3 dX4_bestFilled_50 rfl rfl ?_
  refine zz_icmp_le K 60 dX4_bestFilled_51 rfl (fun c9 => ?_) (fun c9 => ?_)
  · have h := (And.left h) c9
    refine zz_sub [1, 2, 3, 4, 5] [(0, .ref (ad 4)), (1, .ref (ad 1)), (2, .int v2), (3, .int v3), (4, .int v4)] rfl ?_
    exact zu4_bestFilled_60 K hret hB15 h
  · have h := (And.right h) c9
    refine zz_iload K 0 dX4_bestFilled_54 rfl ?_
    refine zz_istore_n K [(2, .int s0), (5, .int s0), (0, .ref (ad 4)), (1, .ref (ad 1)), (3, .int v3), (4, .int v4)] dX4_bestFilled_56 rfl (by decide) rfl ?_
    refine zz_iload K 5 dX4_bestFilled_57 rfl ?_
    refine zz_istore_n K [(3, .int v4), (2, .int s0), (5, .int s0), (0, .ref (ad 4)), (1, .ref (ad 1)), (4, .int v4)] dX4_bestFilled_59 rfl (by decide) rfl ?_
    refine zz_sub [3, 4, 1, 0, 5] [(0, .ref (ad 4)), (1, .ref (ad 1)), (2, .int s0), (3, .int v4), (4, .int v4)] rfl ?_
    exact zu4_bestFilled_60 K hret hB15 h
set_option maxHeartbeats 4000000 in
set_option maxRecDepth 100000 in
theorem zu4_bestFilled_15 {p : Program} {l : Launch} {e : Env} {s : State} {m : MethodId} {args : Array Value} {below : List Frame} {meth : Method} {c : Code} {Q : State → Prop} {D : va_G} {A : Nat → Prop} {ad : Nat → Nat} {cy : Nat → ClassId} {v2 : Int32} {v3 : Int32} {v4 : Int32} {σ : zz_St} (K : zz_K p s m args c cX4_bestFilled 6 RX4 wsX4_bestFilled D (tysC cy) A (wC ad cy) nwC) {Qp : Int32 → zz_St → Prop} (hret : ∀ (r : Int32) (σ2 : zz_St), narrow .int (.int r) = .int r → Qp r σ2 → ∀ (pc : Nat) (lv : List (Nat × Value)), decode cX4_bestFilled pc = .ok (.ireturn, 1) → zz_G p l e zrm4_bestFilled s m args below meth c Q D A (wC ad cy) 6 pc lv [.int r] σ2) (h : zq4_bestFilled_15 v2 v3 v4 σ Qp) : zz_G p l e zrm4_bestFilled s m args below meth c Q D A (wC ad cy) 6 15 [(0, .ref (ad 4)), (1, .ref (ad 1)), (2, .int v2), (3, .int v3), (4, .int v4)] [] σ := by
  unfold zq4_bestFilled_15 at h
  obtain ⟨I15, M15, h0, hs⟩ := h
  have key : ∀ (nq : Nat) (v2 : Int32) (v3 : Int32) (v4 : Int32) (σ : zz_St), M15 v2 v3 v4 σ < nq → I15 v2 v3 v4 σ → zz_G p l e zrm4_bestFilled s m args below meth c Q D A (wC ad cy) 6 15 [(0, .ref (ad 4)), (1, .ref (ad 1)), (2, .int v2), (3, .int v3), (4, .int v4)] [] σ := by
    intro nq
    induction nq with
    | zero => intro v2 v3 v4 σ hlt; exact absurd hlt (Nat.not_lt_zero _)
    | succ nq ih =>
      intro v2 v3 v4 σ hlt hI
      have h := hs v2 v3 v4 σ hI
      have hB15 : ∀ (v2' : Int32) (v3' : Int32) (v4' : Int32) (σ' : zz_St), (fun v2' v3' v4' σ' => I15 v2' v3' v4' σ' ∧ M15 v2' v3' v4' σ' < M15 v2 v3 v4 σ) v2' v3' v4' σ' → zz_G p l e zrm4_bestFilled s m args below meth c Q D A (wC ad cy) 6 15 [(0, .ref (ad 4)), (1, .ref (ad 1)), (2, .int v2'), (3, .int v3'), (4, .int v4')] [] σ' := fun v2' v3' v4' σ' hz => ih v2' v3' v4' σ' (Nat.lt_of_lt_of_le hz.2 (Nat.le_of_lt_succ hlt)) hz.1
      refine zz_iload K 4 dX4_bestFilled_15 rfl ?_
      refine zz_aload_n K 1 dX4_bestFilled_17 rfl rfl ?_
      refine zz_callVi1 K zz_nwC [] (zc6_tileCount l D ad cy  σ _  h) gX4_bestFilled_X6_tileCount rfl ⟨rfl, rfl⟩ zdsC_yX6_tileCount_v ⟨Nat.le_of_ble_eq_true rfl, Nat.le_of_ble_eq_true rfl⟩ (wC_at_1 ad cy σ) rfl rfl rfl rfl (Nat.le_of_ble_eq_true rfl) dX4_bestFilled_18 (fun r10 h => ?_)
      refine zz_icmp_ge K 66 dX4_bestFilled_21 rfl (fun c11 => ?_) (fun c11 => ?_)
      · have h := (And.left h) c11
        refine zz_iload_n K 3 dX4_bestFilled_66 rfl rfl ?_
        exact hret _ _ rfl h _ _ dX4_bestFilled_67
      · have h := (And.right h) c11
        refine zz_aload_n K 1 dX4_bestFilled_24 rfl rfl ?_
        refine zg6_2_0 K zin_X4_bestFilled_X6 zlk_X4_bestFilled_2 dX4_bestFilled_25 ?_
        refine zz_iload K 4 dX4_bestFilled_28 rfl ?_
        obtain ⟨hin, h⟩ := h
        refine zz_iaload K 0 (wC_at_14 ad cy σ) rfl hin dX4_bestFilled_30 ?_
        refine zz_iconst K dX4_bestFilled_31 zcCi_1 ?_
        refine zz_icmp_ne K 45 dX4_bestFilled_32 rfl (fun c12 => ?_) (fun c12 => ?_)
        · have h := (And.left h) c12
          refine zz_iconst K dX4_bestFilled_45 zcCi_0 ?_
          exact zu4_bestFilled_46 K hret hB15 h
        · have h := (And.right h) c12
          refine zz_aload_n K 0 dX4_bestFilled_35 rfl rfl ?_
          refine zz_aload_n K 1 dX4_bestFilled_36 rfl rfl ?_
          refine zz_iload K 4 dX4_bestFilled_37 rfl ?_
          refine zz_callVi K zz_nwC [.ref (ad 1), .int v4] (zc4_statesFilled l D ad cy v4 σ _  h) gX4_bestFilled_X4_statesFilled rfl ⟨rfl, rfl⟩ zdsC_yX4_statesFilled_v ⟨Nat.le_of_ble_eq_true rfl, Nat.le_of_ble_eq_true rfl⟩ (wC_at_4 ad cy σ) rfl rfl rfl rfl (Nat.le_of_ble_eq_true rfl) dX4_bestFilled_39 (fun r13 g14 h => ?_)
          refine zz_goto K 46 dX4_bestFilled_42 rfl ?_
          exact zu4_bestFilled_46 K hret hB15 h
  exact key _ v2 v3 v4 σ (Nat.lt_succ_self _) h0
set_option maxHeartbeats 4000000 in
set_option maxRecDepth 100000 in
theorem zu4_bestFilled_0 {p : Program} {l : Launch} {e : Env} {s : State} {m : MethodId} {args : Array Value} {below : List Frame} {meth : Method} {c : Code} {Q : State → Prop} {D : va_G} {A : Nat → Prop} {ad : Nat → Nat} {cy : Nat → ClassId}  {σ : zz_St} (K : zz_K p s m args c cX4_bestFilled 6 RX4 wsX4_bestFilled D (tysC cy) A (wC ad cy) nwC) {Qp : Int32 → zz_St → Prop} (hret : ∀ (r : Int32) (σ2 : zz_St), narrow .int (.int r) = .int r → Qp r σ2 → ∀ (pc : Nat) (lv : List (Nat × Value)), decode cX4_bestFilled pc = .ok (.ireturn, 1) → zz_G p l e zrm4_bestFilled s m args below meth c Q D A (wC ad cy) 6 pc lv [.int r] σ2) (h : zq4_bestFilled σ Qp) : zz_G p l e zrm4_bestFilled s m args below meth c Q D A (wC ad cy) 6 0 [(0, .ref (ad 4)), (1, .ref (ad 1))] [] σ := by
  unfold zq4_bestFilled at h
  refine zz_aload_n K 0 dX4_bestFilled_0 rfl rfl ?_
  refine zz_aload_n K 1 dX4_bestFilled_1 rfl rfl ?_
  refine zz_callVv K zz_nwC [.ref (ad 1)] (zc4_floodAll l D ad cy  σ _  h) gX4_bestFilled_X4_floodAll rfl ⟨rfl, rfl⟩ zdsC_yX4_floodAll_v ⟨Nat.le_of_ble_eq_true rfl, Nat.le_of_ble_eq_true rfl⟩ (wC_at_4 ad cy σ) rfl rfl rfl rfl (Nat.le_of_ble_eq_true rfl) dX4_bestFilled_2 (fun g15 h => ?_)
  refine zz_aload_n K 0 dX4_bestFilled_5 rfl rfl ?_
  refine zg4_7_0 K zin_X4_bestFilled_X4 zlk_X4_bestFilled_1 dX4_bestFilled_6 ?_
  refine zz_nmi (fun x16 ex16 => ?_)
  have h := h x16 ex16
  refine zz_istore_n K [(2, .int x16), (0, .ref (ad 4)), (1, .ref (ad 1))] dX4_bestFilled_9 rfl (by decide) rfl ?_
  refine zz_iconst K dX4_bestFilled_10 zcCi_m1 ?_
  refine zz_istore_n K [(3, .int (-1 : Int32)), (2, .int x16), (0, .ref (ad 4)), (1, .ref (ad 1))] dX4_bestFilled_11 rfl (by decide) rfl ?_
  refine zz_iconst K dX4_bestFilled_12 zcCi_0 ?_
  refine zz_istore K [(4, .int (0 : Int32)), (3, .int (-1 : Int32)), (2, .int x16), (0, .ref (ad 4)), (1, .ref (ad 1))] dX4_bestFilled_13 (by decide) rfl ?_
  refine zz_sub [3, 4, 2, 1, 0] [(0, .ref (ad 4)), (1, .ref (ad 1)), (2, .int x16), (3, .int (-1 : Int32)), (4, .int (0 : Int32))] rfl ?_
  exact zu4_bestFilled_15 K hret h
set_option maxRecDepth 100000 in
theorem zc4_bestFilled (l : Launch) (D : va_G) (ad : Nat → Nat) (cy : Nat → ClassId)  (σ : zz_St) (Qp : Int32 → zz_St → Prop) (h : zq4_bestFilled σ Qp) : zz_Mi l yX4_bestFilled wsX4_bestFilled zrm4_bestFilled D (tysC cy) (wC ad cy) nwC [.ref (ad 4), .ref (ad 1)] σ Qp :=
  zz_Mi.of zz_nwC (wC_ad ad cy) (by decide +kernel) rfl ⟨rfl, rfl⟩ (Nat.le_of_ble_eq_true rfl) (fun p e s m args below meth c A QW K hret => zu4_bestFilled_0 K  hret h)
theorem zin_X6_tilesUnder_X6 : ∀ w ∈ wsX60, w ∈ wsX6_tilesUnder := fun w h => List.mem_cons_of_mem _ (List.mem_append_left _ (List.mem_append_right _ h))
theorem zlk_X6_tilesUnder_1 : Cond.fieldLink RX6 38 "SolidsRolled$World" "kind" "I" ∈ wsX6_tilesUnder := List.mem_of_getElem? (i := 1) rfl
theorem zlk_X6_tilesUnder_2 : Cond.constantLong RX6 116 (3) ∈ wsX6_tilesUnder := List.mem_of_getElem? (i := 2) rfl
theorem zlk_X6_tilesUnder_3 : Cond.fieldLink RX6 35 "SolidsRolled$World" "columns" "I" ∈ wsX6_tilesUnder := List.mem_of_getElem? (i := 3) rfl
theorem zlk_X6_tilesUnder_5 : Cond.initialized RX7 ∈ wsX6_tilesUnder := List.mem_of_getElem? (i := 5) rfl
theorem zlk_X6_tilesUnder_4 : Cond.static yX7_isTetra ∈ wsX6_tilesUnder := List.mem_of_getElem? (i := 4) rfl
abbrev zrm6_tilesUnder : Room := { frames := 2, cells := 0, slots := 0, locals := 43 }
set_option maxHeartbeats 4000000 in
set_option maxRecDepth 100000 in
theorem zu6_tilesUnder_0 {p : Program} {l : Launch} {e : Env} {s : State} {m : MethodId} {args : Array Value} {below : List Frame} {meth : Method} {c : Code} {Q : State → Prop} {D : va_G} {A : Nat → Prop} {ad : Nat → Nat} {cy : Nat → ClassId} {v1 : Int32} {σ : zz_St} (K : zz_K p s m args c cX6_tilesUnder 3 RX6 wsX6_tilesUnder D (tysC cy) A (wC ad cy) nwC) {Qp : Int64 → Prop} (hret : ∀ (r : Int64), Qp r → ∀ (pc : Nat) (lv : List (Nat × Value)), decode cX6_tilesUnder pc = .ok (.lreturn, 1) → zz_G p l e zrm6_tilesUnder s m args below meth c Q D A (wC ad cy) 3 pc lv [.long r] σ) (h : zq6_tilesUnder v1 σ Qp) : zz_G p l e zrm6_tilesUnder s m args below meth c Q D A (wC ad cy) 3 0 [(0, .ref (ad 1)), (1, .int v1)] [] σ := by
  unfold zq6_tilesUnder at h
  refine zz_iload_n K 1 dX6_tilesUnder_0 rfl rfl ?_
  refine zz_bipush K dX6_tilesUnder_1 zcCb_24 ?_
  refine zz_idiv K (by decide : ¬ (24 : Int32) = 0) dX6_tilesUnder_3 ?_
  refine zz_nmi (fun x5 ex5 => ?_)
  have h := h x5 ex5
  refine zz_istore_n K [(2, .int x5), (0, .ref (ad 1)), (1, .int v1)] dX6_tilesUnder_4 rfl (by decide) rfl ?_
  refine zz_aload_n K 1 dX6_tilesUnder_5 rfl rfl ?_
  refine zg6_6_0 K zin_X6_tilesUnder_X6 zlk_X6_tilesUnder_1 dX6_tilesUnder_6 ?_
  refine zz_callNi1 K zz_nwC [.int ((σ).1 6)] (zc7_isTetra l D ad cy ((σ).1 6) σ _  h) ggX6_tilesUnder_X7_isTetra rfl ⟨rfl, rfl⟩ zdsC_yX7_isTetra_s ⟨Nat.le_of_ble_eq_true rfl, Nat.le_of_ble_eq_true rfl⟩ (List.mem_of_getElem? (i := 0) rfl) zlk_X6_tilesUnder_5 zlk_X6_tilesUnder_4 rfl rfl (Nat.le_of_ble_eq_true rfl) dX6_tilesUnder_9 (fun r6 h => ?_)
  refine zz_if_eq K 21 dX6_tilesUnder_12 rfl (fun c7 => ?_) (fun c7 => ?_)
  · have h := (And.left h) c7
    refine zz_aload_n K 1 dX6_tilesUnder_21 rfl rfl ?_
    refine zz_iload_n K 2 dX6_tilesUnder_22 rfl rfl ?_
    refine zz_bipush K dX6_tilesUnder_23 zcCb_24 ?_
    refine zz_irem K (by decide : ¬ (24 : Int32) = 0) dX6_tilesUnder_25 ?_
    refine zz_callVi1 K zz_nwC [.int (v1 - v1 / (24 : Int32) * (24 : Int32))] (zc6_lie l D ad cy (v1 - v1 / (24 : Int32) * (24 : Int32)) σ _  h) gX6_tilesUnder_X6_lie rfl ⟨rfl, rfl⟩ zdsC_yX6_lie_v ⟨Nat.le_of_ble_eq_true rfl, Nat.le_of_ble_eq_true rfl⟩ (wC_at_1 ad cy σ) rfl rfl rfl rfl (Nat.le_of_ble_eq_true rfl) dX6_tilesUnder_26 (fun r8 h => ?_)
    by_cases c9 : r8 = (1 : Int32)
    · have h := (And.left h) c9
      refine zz_look K 56 dX6_tilesUnder_29 (by decide) (by rw [c9]) rfl ?_
      refine zz_ldc2 K zlk_X6_tilesUnder_2 dX6_tilesUnder_56 ?_
      refine zz_iload_n K 0 dX6_tilesUnder_59 rfl rfl ?_
      refine zz_lshl K dX6_tilesUnder_60 ?_
      exact hret _ h _ _ dX6_tilesUnder_61
    have h := (And.right h) c9
    by_cases c10 : r8 = (2 : Int32)
    · have h := (And.left h) c10
      refine zz_look K 62 dX6_tilesUnder_29 (by decide) (by rw [c10]) rfl ?_
      refine zz_lconst K (v := (1 : Int64)) dX6_tilesUnder_62 rfl ?_
      refine zz_iload_n K 0 dX6_tilesUnder_63 rfl rfl ?_
      refine zz_lshl K dX6_tilesUnder_64 ?_
      refine zz_lconst K (v := (1 : Int64)) dX6_tilesUnder_65 rfl ?_
      refine zz_iload_n K 0 dX6_tilesUnder_66 rfl rfl ?_
      refine zz_aload_n K 1 dX6_tilesUnder_67 rfl rfl ?_
      refine zg6_5_0 K zin_X6_tilesUnder_X6 zlk_X6_tilesUnder_3 dX6_tilesUnder_68 ?_
      refine zz_iadd K dX6_tilesUnder_71 ?_
      refine zz_lshl K dX6_tilesUnder_72 ?_
      refine zz_lor K dX6_tilesUnder_73 ?_
      exact hret _ h _ _ dX6_tilesUnder_74
    have h := (And.right h) c10
    refine zz_look K 75 dX6_tilesUnder_29 (by decide) (by show Op.lookupswitch.offset [(1, 27), (2, 33)] 46 r8.toInt = 46; rw [lv_osw c9 (by decide), lv_osw c10 (by decide)]; rfl) rfl ?_
    refine zz_lconst K (v := (1 : Int64)) dX6_tilesUnder_75 rfl ?_
    refine zz_iload_n K 0 dX6_tilesUnder_76 rfl rfl ?_
    refine zz_lshl K dX6_tilesUnder_77 ?_
    exact hret _ h _ _ dX6_tilesUnder_78
  · have h := (And.right h) c7
    refine zz_lconst K (v := (1 : Int64)) dX6_tilesUnder_15 rfl ?_
    refine zz_iload_n K 0 dX6_tilesUnder_16 rfl rfl ?_
    refine zz_iconst K dX6_tilesUnder_17 zcCi_2 ?_
    refine zz_idiv K (by decide : ¬ (2 : Int32) = 0) dX6_tilesUnder_18 ?_
    refine zz_lshl K dX6_tilesUnder_19 ?_
    exact hret _ h _ _ dX6_tilesUnder_20
set_option maxRecDepth 100000 in
theorem zc6_tilesUnder (l : Launch) (D : va_G) (ad : Nat → Nat) (cy : Nat → ClassId) (v1 : Int32) (σ : zz_St) (Qp : Int64 → Prop) (h : zq6_tilesUnder v1 σ Qp) : zz_Ml l yX6_tilesUnder wsX6_tilesUnder zrm6_tilesUnder D (tysC cy) (wC ad cy) nwC [.ref (ad 1), .int v1] σ (fun r σ2 => σ2 = σ ∧ Qp r) :=
  zz_Ml.of zz_nwC (wC_ad ad cy) (by decide +kernel) rfl ⟨rfl, rfl⟩ (Nat.le_of_ble_eq_true rfl) (fun p e s m args below meth c A QW K hret => zu6_tilesUnder_0 K  (fun r hq pc lv hd => hret r σ ⟨rfl, hq⟩ pc lv hd) h)
theorem zin_X4_tilesToward_X4 : ∀ w ∈ wsX40, w ∈ wsX4_tilesToward := fun w h => List.mem_cons_of_mem _ (List.mem_append_left _ (List.mem_append_left _ (List.mem_append_right _ h)))
theorem zlk_X4_tilesToward_1 : Cond.fieldLink RX4 9 "SolidsRolled$Search" "steps" "[I" ∈ wsX4_tilesToward := List.mem_of_getElem? (i := 1) rfl
theorem zlk_X4_tilesToward_2 : Cond.fieldLink RX4 15 "SolidsRolled$Search" "cameFrom" "[I" ∈ wsX4_tilesToward := List.mem_of_getElem? (i := 2) rfl
theorem zdsC_yX6_tilesUnder_v : yX6_tilesUnder.cls = RX6 ∧ yX6_tilesUnder.cls ≠ "java/lang/invoke/MethodHandle" ∧ yX6_tilesUnder.cls ≠ "java/lang/invoke/VarHandle" ∧ (parseMethodDescriptor yX6_tilesUnder.desc).map (fun d => d.parameters.length) = some 1 := by decide +kernel
abbrev zrm4_tilesToward : Room := { frames := 3, cells := 0, slots := 0, locals := 65 }
set_option maxHeartbeats 4000000 in
set_option maxRecDepth 100000 in
theorem zu4_tilesToward_13 {p : Program} {l : Launch} {e : Env} {s : State} {m : MethodId} {args : Array Value} {below : List Frame} {meth : Method} {c : Code} {Q : State → Prop} {D : va_G} {A : Nat → Prop} {ad : Nat → Nat} {cy : Nat → ClassId} {v3 : Int64} {v5 : Int32} {v6 : Int32} {σ : zz_St} (K : zz_K p s m args c cX4_tilesToward 7 RX4 wsX4_tilesToward D (tysC cy) A (wC ad cy) nwC) {Qp : Int64 → Prop} (hret : ∀ (r : Int64), Qp r → ∀ (pc : Nat) (lv : List (Nat × Value)), decode cX4_tilesToward pc = .ok (.lreturn, 1) → zz_G p l e zrm4_tilesToward s m args below meth c Q D A (wC ad cy) 7 pc lv [.long r] σ) (h : zq4_tilesToward_13 v3 v5 v6 σ Qp) : zz_G p l e zrm4_tilesToward s m args below meth c Q D A (wC ad cy) 7 13 [(0, .ref (ad 4)), (1, .ref (ad 1)), (3, .long v3), (5, .int v5), (6, .int v6)] [] σ := by
  unfold zq4_tilesToward_13 at h
  obtain ⟨I13, M13, h0, hs⟩ := h
  have key : ∀ (nq : Nat) (v3 : Int64) (v5 : Int32) (v6 : Int32), M13 v3 v5 v6 < nq → I13 v3 v5 v6 → zz_G p l e zrm4_tilesToward s m args below meth c Q D A (wC ad cy) 7 13 [(0, .ref (ad 4)), (1, .ref (ad 1)), (3, .long v3), (5, .int v5), (6, .int v6)] [] σ := by
    intro nq
    induction nq with
    | zero => intro v3 v5 v6 hlt; exact absurd hlt (Nat.not_lt_zero _)
    | succ nq ih =>
      intro v3 v5 v6 hlt hI
      have h := hs v3 v5 v6 hI
      have hB13 : ∀ (v3' : Int64) (v5' : Int32) (v6' : Int32), (fun v3' v5' v6' => I13 v3' v5' v6' ∧ M13 v3' v5' v6' < M13 v3 v5 v6) v3' v5' v6' → zz_G p l e zrm4_tilesToward s m args below meth c Q D A (wC ad cy) 7 13 [(0, .ref (ad 4)), (1, .ref (ad 1)), (3, .long v3'), (5, .int v5'), (6, .int v6')] [] σ := fun v3' v5' v6' hz => ih v3' v5' v6' (Nat.lt_of_lt_of_le hz.2 (Nat.le_of_lt_succ hlt)) hz.1
      refine zz_iload K 4 dX4_tilesToward_13 rfl ?_
      refine zz_if_le K 42 dX4_tilesToward_15 rfl (fun c6 => ?_) (fun c6 => ?_)
      · have h := (And.left h) c6
        refine zz_lload_n K 2 dX4_tilesToward_42 rfl rfl ?_
        exact hret _ h _ _ dX4_tilesToward_43
      · have h := (And.right h) c6
        refine zz_lload_n K 2 dX4_tilesToward_18 rfl rfl ?_
        refine zz_aload_n K 1 dX4_tilesToward_19 rfl rfl ?_
        refine zz_iload K 3 dX4_tilesToward_20 rfl ?_
        refine zz_callVl1 K zz_nwC [.int v5] (zc6_tilesUnder l D ad cy v5 σ _  h) gX4_tilesToward_X6_tilesUnder rfl ⟨rfl, rfl⟩ zdsC_yX6_tilesUnder_v ⟨Nat.le_of_ble_eq_true rfl, Nat.le_of_ble_eq_true rfl⟩ (wC_at_1 ad cy σ) rfl rfl rfl rfl (Nat.le_of_ble_eq_true rfl) dX4_tilesToward_22 (fun r7 h => ?_)
        refine zz_lor K dX4_tilesToward_25 ?_
        refine zz_nml (fun x8 ex8 => ?_)
        have h := h x8 ex8
        refine zz_lstore_n K [(3, .long x8), (0, .ref (ad 4)), (1, .ref (ad 1)), (5, .int v5), (6, .int v6)] dX4_tilesToward_26 rfl (by decide) rfl ?_
        refine zz_aload_n K 1 dX4_tilesToward_27 rfl rfl ?_
        refine zg4_1_0 K zin_X4_tilesToward_X4 zlk_X4_tilesToward_2 dX4_tilesToward_28 ?_
        refine zz_iload K 3 dX4_tilesToward_31 rfl ?_
        obtain ⟨hin, h⟩ := h
        refine zz_iaload K 0 (wC_at_20 ad cy σ) rfl hin dX4_tilesToward_33 ?_
        refine zz_nmi (fun x9 ex9 => ?_)
        have h := h x9 ex9
        refine zz_istore K [(5, .int x9), (3, .long x8), (0, .ref (ad 4)), (1, .ref (ad 1)), (6, .int v6)] dX4_tilesToward_34 (by decide) rfl ?_
        refine zz_iinc K 4 [(6, .int (v6 + (-1 : Int32))), (5, .int x9), (3, .long x8), (0, .ref (ad 4)), (1, .ref (ad 1))] dX4_tilesToward_36 zcCi_m1 rfl (by decide) rfl ?_
        refine zz_goto K 13 dX4_tilesToward_39 rfl ?_
        refine zz_sub [3, 4, 2, 1, 0] [(0, .ref (ad 4)), (1, .ref (ad 1)), (3, .long x8), (5, .int x9), (6, .int (v6 + (-1 : Int32)))] rfl ?_
        exact hB13 x8 x9 (v6 + (-1 : Int32)) h
  exact key _ v3 v5 v6 (Nat.lt_succ_self _) h0
set_option maxHeartbeats 4000000 in
set_option maxRecDepth 100000 in
theorem zu4_tilesToward_0 {p : Program} {l : Launch} {e : Env} {s : State} {m : MethodId} {args : Array Value} {below : List Frame} {meth : Method} {c : Code} {Q : State → Prop} {D : va_G} {A : Nat → Prop} {ad : Nat → Nat} {cy : Nat → ClassId} {v2 : Int32} {σ : zz_St} (K : zz_K p s m args c cX4_tilesToward 7 RX4 wsX4_tilesToward D (tysC cy) A (wC ad cy) nwC) {Qp : Int64 → Prop} (hret : ∀ (r : Int64), Qp r → ∀ (pc : Nat) (lv : List (Nat × Value)), decode cX4_tilesToward pc = .ok (.lreturn, 1) → zz_G p l e zrm4_tilesToward s m args below meth c Q D A (wC ad cy) 7 pc lv [.long r] σ) (h : zq4_tilesToward v2 σ Qp) : zz_G p l e zrm4_tilesToward s m args below meth c Q D A (wC ad cy) 7 0 [(0, .ref (ad 4)), (1, .ref (ad 1)), (2, .int v2)] [] σ := by
  unfold zq4_tilesToward at h
  refine zz_lconst K (v := (0 : Int64)) dX4_tilesToward_0 rfl ?_
  refine zz_lstore_n K [(3, .long (0 : Int64)), (0, .ref (ad 4)), (1, .ref (ad 1)), (2, .int v2)] dX4_tilesToward_1 rfl (by decide) rfl ?_
  refine zz_iload_n K 3 dX4_tilesToward_2 rfl rfl ?_
  refine zz_istore K [(5, .int v2), (3, .long (0 : Int64)), (0, .ref (ad 4)), (1, .ref (ad 1)), (2, .int v2)] dX4_tilesToward_3 (by decide) rfl ?_
  refine zz_aload_n K 2 dX4_tilesToward_5 rfl rfl ?_
  refine zg4_0_0 K zin_X4_tilesToward_X4 zlk_X4_tilesToward_1 dX4_tilesToward_6 ?_
  refine zz_iload_n K 4 dX4_tilesToward_9 rfl rfl ?_
  obtain ⟨hin, h⟩ := h
  refine zz_iaload K 0 (wC_at_19 ad cy σ) rfl hin dX4_tilesToward_10 ?_
  refine zz_nmi (fun x10 ex10 => ?_)
  have h := h x10 ex10
  refine zz_istore K [(6, .int x10), (5, .int v2), (3, .long (0 : Int64)), (0, .ref (ad 4)), (1, .ref (ad 1)), (2, .int v2)] dX4_tilesToward_11 (by decide) rfl ?_
  refine zz_sub [3, 4, 2, 1, 0] [(0, .ref (ad 4)), (1, .ref (ad 1)), (3, .long (0 : Int64)), (5, .int v2), (6, .int x10)] rfl ?_
  exact zu4_tilesToward_13 K hret h
set_option maxRecDepth 100000 in
theorem zc4_tilesToward (l : Launch) (D : va_G) (ad : Nat → Nat) (cy : Nat → ClassId) (v2 : Int32) (σ : zz_St) (Qp : Int64 → Prop) (h : zq4_tilesToward v2 σ Qp) : zz_Ml l yX4_tilesToward wsX4_tilesToward zrm4_tilesToward D (tysC cy) (wC ad cy) nwC [.ref (ad 4), .ref (ad 1), .int v2] σ (fun r σ2 => σ2 = σ ∧ Qp r) :=
  zz_Ml.of zz_nwC (wC_ad ad cy) (by decide +kernel) rfl ⟨rfl, rfl⟩ (Nat.le_of_ble_eq_true rfl) (fun p e s m args below meth c A QW K hret => zu4_tilesToward_0 K  (fun r hq pc lv hd => hret r σ ⟨rfl, hq⟩ pc lv hd) h)
theorem zin_X4_isLaterWithout_X6 : ∀ w ∈ wsX60, w ∈ wsX4_isLaterWithout := fun w h => List.mem_cons_of_mem _ (List.mem_append_left _ (List.mem_append_left _ (List.mem_append_right _ h)))
theorem zlk_X4_isLaterWithout_1 : Cond.fieldLink RX4 76 "SolidsRolled$World" "tiles" "[I" ∈ wsX4_isLaterWithout := List.mem_of_getElem? (i := 1) rfl
theorem zin_X4_isLaterWithout_X4 : ∀ w ∈ wsX40, w ∈ wsX4_isLaterWithout := fun w h => List.mem_cons_of_mem _ (List.mem_append_left _ (List.mem_append_right _ h))
theorem zlk_X4_isLaterWithout_2 : Cond.fieldLink RX4 9 "SolidsRolled$Search" "steps" "[I" ∈ wsX4_isLaterWithout := List.mem_of_getElem? (i := 2) rfl
abbrev zrm4_isLaterWithout : Room := { frames := 4, cells := 0, slots := 0, locals := 104 }
set_option maxHeartbeats 4000000 in
set_option maxRecDepth 100000 in
theorem zu4_isLaterWithout_0 {p : Program} {l : Launch} {e : Env} {s : State} {m : MethodId} {args : Array Value} {below : List Frame} {meth : Method} {c : Code} {Q : State → Prop} {D : va_G} {A : Nat → Prop} {ad : Nat → Nat} {cy : Nat → ClassId} {v2 : Int32} {v3 : Int32} {v4 : Int32} {σ : zz_St} (K : zz_K p s m args c cX4_isLaterWithout 7 RX4 wsX4_isLaterWithout D (tysC cy) A (wC ad cy) nwC) {Qp : Int32 → zz_St → Prop} (hret : ∀ (r : Int32) (σ2 : zz_St), narrow .boolean (.int r) = .int r → Qp r σ2 → ∀ (pc : Nat) (lv : List (Nat × Value)), decode cX4_isLaterWithout pc = .ok (.ireturn, 1) → zz_G p l e zrm4_isLaterWithout s m args below meth c Q D A (wC ad cy) 7 pc lv [.int r] σ2) (h : zq4_isLaterWithout v2 v3 v4 σ Qp) : zz_G p l e zrm4_isLaterWithout s m args below meth c Q D A (wC ad cy) 7 0 [(0, .ref (ad 4)), (1, .ref (ad 1)), (2, .int v2), (3, .int v3), (4, .int v4)] [] σ := by
  unfold zq4_isLaterWithout at h
  refine zz_aload_n K 1 dX4_isLaterWithout_0 rfl rfl ?_
  refine zg6_2_0 K zin_X4_isLaterWithout_X6 zlk_X4_isLaterWithout_1 dX4_isLaterWithout_1 ?_
  refine zz_iload_n K 2 dX4_isLaterWithout_4 rfl rfl ?_
  obtain ⟨hin, h⟩ := h
  refine zz_iaload K 0 (wC_at_14 ad cy σ) rfl hin dX4_isLaterWithout_5 ?_
  refine zz_nmi (fun x8 ex8 => ?_)
  have h := h x8 ex8
  refine zz_istore K [(5, .int x8), (0, .ref (ad 4)), (1, .ref (ad 1)), (2, .int v2), (3, .int v3), (4, .int v4)] dX4_isLaterWithout_6 (by decide) rfl ?_
  refine zz_aload_n K 2 dX4_isLaterWithout_8 rfl rfl ?_
  refine zg6_2_0 K zin_X4_isLaterWithout_X6 zlk_X4_isLaterWithout_1 dX4_isLaterWithout_9 ?_
  refine zz_iload_n K 3 dX4_isLaterWithout_12 rfl rfl ?_
  refine zz_iconst K dX4_isLaterWithout_13 zcCi_1 ?_
  obtain ⟨hin, h⟩ := h
  refine zz_iastore K 0 (σ2 := zz_A σ 14 (upd ((σ).2.1 14) v2.toNatClampNeg (1 : Int32))) (wC_at_14 ad cy σ) (wC_set_14 ad cy σ _) rfl hin dX4_isLaterWithout_14 ?_
  refine zz_nms (fun g9 eg9 => ?_)
  have h := h g9 eg9
  refine zz_aload_n K 1 dX4_isLaterWithout_15 rfl rfl ?_
  refine zz_aload_n K 2 dX4_isLaterWithout_16 rfl rfl ?_
  refine zz_iload_n K 4 dX4_isLaterWithout_17 rfl rfl ?_
  refine zz_iconst K dX4_isLaterWithout_18 zcCi_m1 ?_
  refine zz_callVi K zz_nwC [.ref (ad 1), .int v3, .int (-1 : Int32)] (zc4_floodTo l D ad cy v3 (-1 : Int32) g9 _  h) gX4_isLaterWithout_X4_floodTo rfl ⟨rfl, rfl⟩ zdsC_yX4_floodTo_v ⟨Nat.le_of_ble_eq_true rfl, Nat.le_of_ble_eq_true rfl⟩ (wC_at_4 ad cy g9) rfl rfl rfl rfl (Nat.le_of_ble_eq_true rfl) dX4_isLaterWithout_19 (fun r10 g11 h => ?_)
  refine zz_istore K [(6, .int r10), (5, .int x8), (0, .ref (ad 4)), (1, .ref (ad 1)), (2, .int v2), (3, .int v3), (4, .int v4)] dX4_isLaterWithout_22 (by decide) rfl ?_
  refine zz_aload_n K 3 dX4_isLaterWithout_24 rfl rfl ?_
  refine zg6_2_0 K zin_X4_isLaterWithout_X6 zlk_X4_isLaterWithout_1 dX4_isLaterWithout_25 ?_
  refine zz_iload_n K 4 dX4_isLaterWithout_28 rfl rfl ?_
  refine zz_iload K 1 dX4_isLaterWithout_29 rfl ?_
  obtain ⟨hin, h⟩ := h
  refine zz_iastore K 0 (σ2 := zz_A g11 14 (upd (g11.2.1 14) v2.toNatClampNeg x8)) (wC_at_14 ad cy g11) (wC_set_14 ad cy g11 _) rfl hin dX4_isLaterWithout_31 ?_
  refine zz_nms (fun g12 eg12 => ?_)
  have h := h g12 eg12
  refine zz_iload K 0 dX4_isLaterWithout_32 rfl ?_
  refine zz_if_lt K 49 dX4_isLaterWithout_34 rfl (fun c13 => ?_) (fun c13 => ?_)
  · have h := (And.left h) c13
    refine zz_iconst K dX4_isLaterWithout_49 zcCi_1 ?_
    refine zz_goto K 54 dX4_isLaterWithout_50 rfl ?_
    exact hret _ _ rfl h _ _ dX4_isLaterWithout_54
  · have h := (And.right h) c13
    refine zz_aload_n K 2 dX4_isLaterWithout_37 rfl rfl ?_
    refine zg4_0_0 K zin_X4_isLaterWithout_X4 zlk_X4_isLaterWithout_2 dX4_isLaterWithout_38 ?_
    refine zz_iload K 0 dX4_isLaterWithout_41 rfl ?_
    obtain ⟨hin, h⟩ := h
    refine zz_iaload K 0 (wC_at_19 ad cy g12) rfl hin dX4_isLaterWithout_43 ?_
    refine zz_iload K 6 dX4_isLaterWithout_44 rfl ?_
    refine zz_icmp_le K 53 dX4_isLaterWithout_46 rfl (fun c14 => ?_) (fun c14 => ?_)
    · have h := (And.left h) c14
      refine zz_iconst K dX4_isLaterWithout_53 zcCi_0 ?_
      exact hret _ _ rfl h _ _ dX4_isLaterWithout_54
    · have h := (And.right h) c14
      refine zz_iconst K dX4_isLaterWithout_49 zcCi_1 ?_
      refine zz_goto K 54 dX4_isLaterWithout_50 rfl ?_
      exact hret _ _ rfl h _ _ dX4_isLaterWithout_54
set_option maxRecDepth 100000 in
theorem zc4_isLaterWithout (l : Launch) (D : va_G) (ad : Nat → Nat) (cy : Nat → ClassId) (v2 : Int32) (v3 : Int32) (v4 : Int32) (σ : zz_St) (Qp : Int32 → zz_St → Prop) (h : zq4_isLaterWithout v2 v3 v4 σ Qp) : zz_Mi l yX4_isLaterWithout wsX4_isLaterWithout zrm4_isLaterWithout D (tysC cy) (wC ad cy) nwC [.ref (ad 4), .ref (ad 1), .int v2, .int v3, .int v4] σ Qp :=
  zz_Mi.of zz_nwC (wC_ad ad cy) (by decide +kernel) rfl ⟨rfl, rfl⟩ (Nat.le_of_ble_eq_true rfl) (fun p e s m args below meth c A QW K hret => zu4_isLaterWithout_0 K  hret h)
theorem zin_X4_tilesNeeded_X4 : ∀ w ∈ wsX40, w ∈ wsX4_tilesNeeded := fun w h => List.mem_cons_of_mem _ (List.mem_append_left _ (List.mem_append_left _ (List.mem_append_right _ h)))
theorem zlk_X4_tilesNeeded_1 : Cond.fieldLink RX4 9 "SolidsRolled$Search" "steps" "[I" ∈ wsX4_tilesNeeded := List.mem_of_getElem? (i := 1) rfl
theorem zin_X4_tilesNeeded_X6 : ∀ w ∈ wsX60, w ∈ wsX4_tilesNeeded := fun w h => List.mem_cons_of_mem _ (List.mem_append_left _ (List.mem_append_right _ h))
theorem zlk_X4_tilesNeeded_2 : Cond.fieldLink RX4 47 "SolidsRolled$World" "state" "I" ∈ wsX4_tilesNeeded := List.mem_of_getElem? (i := 2) rfl
theorem zlk_X4_tilesNeeded_3 : Cond.constantLong RX4 91 (-1) ∈ wsX4_tilesNeeded := List.mem_of_getElem? (i := 3) rfl
theorem zdsC_yX4_isLaterWithout_v : yX4_isLaterWithout.cls = RX4 ∧ yX4_isLaterWithout.cls ≠ "java/lang/invoke/MethodHandle" ∧ yX4_isLaterWithout.cls ≠ "java/lang/invoke/VarHandle" ∧ (parseMethodDescriptor yX4_isLaterWithout.desc).map (fun d => d.parameters.length) = some 4 := by decide +kernel
theorem zdsC_yX4_tilesToward_v : yX4_tilesToward.cls = RX4 ∧ yX4_tilesToward.cls ≠ "java/lang/invoke/MethodHandle" ∧ yX4_tilesToward.cls ≠ "java/lang/invoke/VarHandle" ∧ (parseMethodDescriptor yX4_tilesToward.desc).map (fun d => d.parameters.length) = some 2 := by decide +kernel
abbrev zrm4_tilesNeeded : Room := { frames := 5, cells := 0, slots := 0, locals := 130 }
set_option maxHeartbeats 4000000 in
set_option maxRecDepth 100000 in
theorem zu4_tilesNeeded_92 {p : Program} {l : Launch} {e : Env} {s : State} {m : MethodId} {args : Array Value} {below : List Frame} {meth : Method} {c : Code} {Q : State → Prop} {D : va_G} {A : Nat → Prop} {ad : Nat → Nat} {cy : Nat → ClassId} {v2 : Int32} {v4 : Int32} {v5 : Int64} {v7 : Int64} {v9 : Int32} {σ : zz_St} (K : zz_K p s m args c cX4_tilesNeeded 10 RX4 wsX4_tilesNeeded D (tysC cy) A (wC ad cy) nwC) {Qp : Int64 → zz_St → Prop} (hret : ∀ (r : Int64) (σ2 : zz_St), Qp r σ2 → ∀ (pc : Nat) (lv : List (Nat × Value)), decode cX4_tilesNeeded pc = .ok (.lreturn, 1) → zz_G p l e zrm4_tilesNeeded s m args below meth c Q D A (wC ad cy) 10 pc lv [.long r] σ2) {B49 : Int64 → Int32 → zz_St → Prop} (hB49 : ∀ (v7' : Int64) (v9' : Int32) (σ' : zz_St), B49 v7' v9' σ' → zz_G p l e zrm4_tilesNeeded s m args below meth c Q D A (wC ad cy) 10 49 [(0, .ref (ad 4)), (1, .ref (ad 1)), (2, .int v2), (4, .int v4), (5, .long v5), (7, .long v7'), (9, .int v9')] [] σ') (h : zq4_tilesNeeded_92 v2 v4 v5 v7 v9 σ Qp B49) : zz_G p l e zrm4_tilesNeeded s m args below meth c Q D A (wC ad cy) 10 92 [(0, .ref (ad 4)), (1, .ref (ad 1)), (2, .int v2), (4, .int v4), (5, .long v5), (7, .long v7), (9, .int v9)] [] σ := by
  unfold zq4_tilesNeeded_92 at h
  refine zz_iinc K 6 [(9, .int (v9 + (1 : Int32))), (0, .ref (ad 4)), (1, .ref (ad 1)), (2, .int v2), (4, .int v4), (5, .long v5), (7, .long v7)] dX4_tilesNeeded_92 zcCi_1 rfl (by decide) rfl ?_
  refine zz_goto K 49 dX4_tilesNeeded_95 rfl ?_
  refine zz_sub [1, 2, 3, 4, 5, 6, 0] [(0, .ref (ad 4)), (1, .ref (ad 1)), (2, .int v2), (4, .int v4), (5, .long v5), (7, .long v7), (9, .int (v9 + (1 : Int32)))] rfl ?_
  exact hB49 v7 (v9 + (1 : Int32)) σ h
set_option maxHeartbeats 4000000 in
set_option maxRecDepth 100000 in
theorem zu4_tilesNeeded_49 {p : Program} {l : Launch} {e : Env} {s : State} {m : MethodId} {args : Array Value} {below : List Frame} {meth : Method} {c : Code} {Q : State → Prop} {D : va_G} {A : Nat → Prop} {ad : Nat → Nat} {cy : Nat → ClassId} {v2 : Int32} {v4 : Int32} {v5 : Int64} {v7 : Int64} {v9 : Int32} {σ : zz_St} (K : zz_K p s m args c cX4_tilesNeeded 10 RX4 wsX4_tilesNeeded D (tysC cy) A (wC ad cy) nwC) {Qp : Int64 → zz_St → Prop} (hret : ∀ (r : Int64) (σ2 : zz_St), Qp r σ2 → ∀ (pc : Nat) (lv : List (Nat × Value)), decode cX4_tilesNeeded pc = .ok (.lreturn, 1) → zz_G p l e zrm4_tilesNeeded s m args below meth c Q D A (wC ad cy) 10 pc lv [.long r] σ2) (h : zq4_tilesNeeded_49 v2 v4 v5 v7 v9 σ Qp) : zz_G p l e zrm4_tilesNeeded s m args below meth c Q D A (wC ad cy) 10 49 [(0, .ref (ad 4)), (1, .ref (ad 1)), (2, .int v2), (4, .int v4), (5, .long v5), (7, .long v7), (9, .int v9)] [] σ := by
  unfold zq4_tilesNeeded_49 at h
  obtain ⟨I49, M49, h0, hs⟩ := h
  have key : ∀ (nq : Nat) (v7 : Int64) (v9 : Int32) (σ : zz_St), M49 v7 v9 σ < nq → I49 v7 v9 σ → zz_G p l e zrm4_tilesNeeded s m args below meth c Q D A (wC ad cy) 10 49 [(0, .ref (ad 4)), (1, .ref (ad 1)), (2, .int v2), (4, .int v4), (5, .long v5), (7, .long v7), (9, .int v9)] [] σ := by
    intro nq
    induction nq with
    | zero => intro v7 v9 σ hlt; exact absurd hlt (Nat.not_lt_zero _)
    | succ nq ih =>
      intro v7 v9 σ hlt hI
      have h := hs v7 v9 σ hI
      have hB49 : ∀ (v7' : Int64) (v9' : Int32) (σ' : zz_St), (fun v7' v9' σ' => I49 v7' v9' σ' ∧ M49 v7' v9' σ' < M49 v7 v9 σ) v7' v9' σ' → zz_G p l e zrm4_tilesNeeded s m args below meth c Q D A (wC ad cy) 10 49 [(0, .ref (ad 4)), (1, .ref (ad 1)), (2, .int v2), (4, .int v4), (5, .long v5), (7, .long v7'), (9, .int v9')] [] σ' := fun v7' v9' σ' hz => ih v7' v9' σ' (Nat.lt_of_lt_of_le hz.2 (Nat.le_of_lt_succ hlt)) hz.1
      refine zz_iload K 6 dX4_tilesNeeded_49 rfl ?_
      refine zz_aload_n K 1 dX4_tilesNeeded_51 rfl rfl ?_
      refine zz_callVi1 K zz_nwC [] (zc6_tileCount l D ad cy  σ _  h) gX4_tilesNeeded_X6_tileCount rfl ⟨rfl, rfl⟩ zdsC_yX6_tileCount_v ⟨Nat.le_of_ble_eq_true rfl, Nat.le_of_ble_eq_true rfl⟩ (wC_at_1 ad cy σ) rfl rfl rfl rfl (Nat.le_of_ble_eq_true rfl) dX4_tilesNeeded_52 (fun r15 h => ?_)
      refine zz_icmp_ge K 98 dX4_tilesNeeded_55 rfl (fun c16 => ?_) (fun c16 => ?_)
      · have h := (And.left h) c16
        refine zz_lload K 5 dX4_tilesNeeded_98 rfl ?_
        exact hret _ _ h _ _ dX4_tilesNeeded_100
      · have h := (And.right h) c16
        refine zz_lload K 4 dX4_tilesNeeded_58 rfl ?_
        refine zz_iload K 6 dX4_tilesNeeded_60 rfl ?_
        refine zz_lshr K dX4_tilesNeeded_62 ?_
        refine zz_lconst K (v := (1 : Int64)) dX4_tilesNeeded_63 rfl ?_
        refine zz_land K dX4_tilesNeeded_64 ?_
        refine zz_lconst K (v := (1 : Int64)) dX4_tilesNeeded_65 rfl ?_
        refine zz_lcmp K dX4_tilesNeeded_66 ?_
        refine zz_if_ne K 92 dX4_tilesNeeded_67 rfl (fun c17 => ?_) (fun c17 => ?_)
        · have h := (And.left h) c17
          exact zu4_tilesNeeded_92 K hret hB49 h
        · have h := (And.right h) c17
          refine zz_aload_n K 0 dX4_tilesNeeded_70 rfl rfl ?_
          refine zz_aload_n K 1 dX4_tilesNeeded_71 rfl rfl ?_
          refine zz_iload K 6 dX4_tilesNeeded_72 rfl ?_
          refine zz_iload_n K 2 dX4_tilesNeeded_74 rfl rfl ?_
          refine zz_iload K 3 dX4_tilesNeeded_75 rfl ?_
          refine zz_callVi K zz_nwC [.ref (ad 1), .int v9, .int v2, .int v4] (zc4_isLaterWithout l D ad cy v9 v2 v4 σ _  h) gX4_tilesNeeded_X4_isLaterWithout rfl ⟨rfl, rfl⟩ zdsC_yX4_isLaterWithout_v ⟨Nat.le_of_ble_eq_true rfl, Nat.le_of_ble_eq_true rfl⟩ (wC_at_4 ad cy σ) rfl rfl rfl rfl (Nat.le_of_ble_eq_true rfl) dX4_tilesNeeded_77 (fun r18 g19 h => ?_)
          refine zz_if_eq K 92 dX4_tilesNeeded_80 rfl (fun c20 => ?_) (fun c20 => ?_)
          · have h := (And.left h) c20
            exact zu4_tilesNeeded_92 K hret hB49 h
          · have h := (And.right h) c20
            refine zz_lload K 5 dX4_tilesNeeded_83 rfl ?_
            refine zz_lconst K (v := (1 : Int64)) dX4_tilesNeeded_85 rfl ?_
            refine zz_iload K 6 dX4_tilesNeeded_86 rfl ?_
            refine zz_lshl K dX4_tilesNeeded_88 ?_
            refine zz_lor K dX4_tilesNeeded_89 ?_
            refine zz_nml (fun x21 ex21 => ?_)
            have h := h x21 ex21
            refine zz_lstore K [(7, .long x21), (0, .ref (ad 4)), (1, .ref (ad 1)), (2, .int v2), (4, .int v4), (5, .long v5), (9, .int v9)] dX4_tilesNeeded_90 (by decide) rfl ?_
            refine zz_sub [1, 2, 3, 4, 5, 0, 6] [(0, .ref (ad 4)), (1, .ref (ad 1)), (2, .int v2), (4, .int v4), (5, .long v5), (7, .long x21), (9, .int v9)] rfl ?_
            exact zu4_tilesNeeded_92 K hret hB49 h
  exact key _ v7 v9 σ (Nat.lt_succ_self _) h0
set_option maxHeartbeats 4000000 in
set_option maxRecDepth 100000 in
theorem zu4_tilesNeeded_0 {p : Program} {l : Launch} {e : Env} {s : State} {m : MethodId} {args : Array Value} {below : List Frame} {meth : Method} {c : Code} {Q : State → Prop} {D : va_G} {A : Nat → Prop} {ad : Nat → Nat} {cy : Nat → ClassId} {v2 : Int32} {σ : zz_St} (K : zz_K p s m args c cX4_tilesNeeded 10 RX4 wsX4_tilesNeeded D (tysC cy) A (wC ad cy) nwC) {Qp : Int64 → zz_St → Prop} (hret : ∀ (r : Int64) (σ2 : zz_St), Qp r σ2 → ∀ (pc : Nat) (lv : List (Nat × Value)), decode cX4_tilesNeeded pc = .ok (.lreturn, 1) → zz_G p l e zrm4_tilesNeeded s m args below meth c Q D A (wC ad cy) 10 pc lv [.long r] σ2) (h : zq4_tilesNeeded v2 σ Qp) : zz_G p l e zrm4_tilesNeeded s m args below meth c Q D A (wC ad cy) 10 0 [(0, .ref (ad 4)), (1, .ref (ad 1)), (2, .int v2)] [] σ := by
  unfold zq4_tilesNeeded at h
  refine zz_aload_n K 0 dX4_tilesNeeded_0 rfl rfl ?_
  refine zz_aload_n K 1 dX4_tilesNeeded_1 rfl rfl ?_
  refine zz_iload_n K 2 dX4_tilesNeeded_2 rfl rfl ?_
  refine zz_iconst K dX4_tilesNeeded_3 zcCi_m1 ?_
  refine zz_callVi K zz_nwC [.ref (ad 1), .int v2, .int (-1 : Int32)] (zc4_floodTo l D ad cy v2 (-1 : Int32) σ _  h) gX4_tilesNeeded_X4_floodTo rfl ⟨rfl, rfl⟩ zdsC_yX4_floodTo_v ⟨Nat.le_of_ble_eq_true rfl, Nat.le_of_ble_eq_true rfl⟩ (wC_at_4 ad cy σ) rfl rfl rfl rfl (Nat.le_of_ble_eq_true rfl) dX4_tilesNeeded_4 (fun r22 g23 h => ?_)
  refine zz_istore_n K [(3, .int r22), (0, .ref (ad 4)), (1, .ref (ad 1)), (2, .int v2)] dX4_tilesNeeded_7 rfl (by decide) rfl ?_
  refine zz_iload_n K 0 dX4_tilesNeeded_8 rfl rfl ?_
  refine zz_if_ge K 14 dX4_tilesNeeded_9 rfl (fun c24 => ?_) (fun c24 => ?_)
  · have h := (And.left h) c24
    refine zz_aload_n K 1 dX4_tilesNeeded_14 rfl rfl ?_
    refine zg4_0_0 K zin_X4_tilesNeeded_X4 zlk_X4_tilesNeeded_1 dX4_tilesNeeded_15 ?_
    refine zz_iload_n K 0 dX4_tilesNeeded_18 rfl rfl ?_
    obtain ⟨hin, h⟩ := h
    refine zz_iaload K 0 (wC_at_19 ad cy g23) rfl hin dX4_tilesNeeded_19 ?_
    refine zz_nmi (fun x25 ex25 => ?_)
    have h := h x25 ex25
    refine zz_istore K [(4, .int x25), (3, .int r22), (0, .ref (ad 4)), (1, .ref (ad 1)), (2, .int v2)] dX4_tilesNeeded_20 (by decide) rfl ?_
    refine zz_aload_n K 2 dX4_tilesNeeded_22 rfl rfl ?_
    refine zz_aload_n K 3 dX4_tilesNeeded_23 rfl rfl ?_
    refine zz_iload_n K 1 dX4_tilesNeeded_24 rfl rfl ?_
    refine zz_callVl1 K zz_nwC [.ref (ad 1), .int r22] (zc4_tilesToward l D ad cy r22 g23 _  h) gX4_tilesNeeded_X4_tilesToward rfl ⟨rfl, rfl⟩ zdsC_yX4_tilesToward_v ⟨Nat.le_of_ble_eq_true rfl, Nat.le_of_ble_eq_true rfl⟩ (wC_at_4 ad cy g23) rfl rfl rfl rfl (Nat.le_of_ble_eq_true rfl) dX4_tilesNeeded_25 (fun r26 h => ?_)
    refine zz_aload_n K 3 dX4_tilesNeeded_28 rfl rfl ?_
    refine zz_aload_n K 3 dX4_tilesNeeded_29 rfl rfl ?_
    refine zg6_7_0 K zin_X4_tilesNeeded_X6 zlk_X4_tilesNeeded_2 dX4_tilesNeeded_30 ?_
    refine zz_callVl1 K zz_nwC [.int (g23.1 8)] (zc6_tilesUnder l D ad cy (g23.1 8) g23 _  h) gX4_tilesNeeded_X6_tilesUnder rfl ⟨rfl, rfl⟩ zdsC_yX6_tilesUnder_v ⟨Nat.le_of_ble_eq_true rfl, Nat.le_of_ble_eq_true rfl⟩ (wC_at_1 ad cy g23) rfl rfl rfl rfl (Nat.le_of_ble_eq_true rfl) dX4_tilesNeeded_33 (fun r27 h => ?_)
    refine zz_ldc2 K zlk_X4_tilesNeeded_3 dX4_tilesNeeded_36 ?_
    refine zz_lxor K dX4_tilesNeeded_39 ?_
    refine zz_land K dX4_tilesNeeded_40 ?_
    refine zz_nml (fun x28 ex28 => ?_)
    have h := h x28 ex28
    refine zz_lstore K [(5, .long x28), (4, .int x25), (3, .int r22), (0, .ref (ad 4)), (1, .ref (ad 1)), (2, .int v2)] dX4_tilesNeeded_41 (by decide) rfl ?_
    refine zz_lconst K (v := (0 : Int64)) dX4_tilesNeeded_43 rfl ?_
    refine zz_lstore K [(7, .long (0 : Int64)), (5, .long x28), (4, .int x25), (3, .int r22), (0, .ref (ad 4)), (1, .ref (ad 1)), (2, .int v2)] dX4_tilesNeeded_44 (by decide) rfl ?_
    refine zz_iconst K dX4_tilesNeeded_46 zcCi_0 ?_
    refine zz_istore K [(9, .int (0 : Int32)), (7, .long (0 : Int64)), (5, .long x28), (4, .int x25), (3, .int r22), (0, .ref (ad 4)), (1, .ref (ad 1)), (2, .int v2)] dX4_tilesNeeded_47 (by decide) rfl ?_
    refine zz_sub [5, 6, 7, 3, 2, 1, 0] [(0, .ref (ad 4)), (1, .ref (ad 1)), (2, .int v2), (4, .int x25), (5, .long x28), (7, .long (0 : Int64)), (9, .int (0 : Int32))] rfl ?_
    exact zu4_tilesNeeded_49 K hret h
  · have h := (And.right h) c24
    refine zz_lconst K (v := (0 : Int64)) dX4_tilesNeeded_12 rfl ?_
    exact hret _ _ h _ _ dX4_tilesNeeded_13
set_option maxRecDepth 100000 in
theorem zc4_tilesNeeded (l : Launch) (D : va_G) (ad : Nat → Nat) (cy : Nat → ClassId) (v2 : Int32) (σ : zz_St) (Qp : Int64 → zz_St → Prop) (h : zq4_tilesNeeded v2 σ Qp) : zz_Ml l yX4_tilesNeeded wsX4_tilesNeeded zrm4_tilesNeeded D (tysC cy) (wC ad cy) nwC [.ref (ad 4), .ref (ad 1), .int v2] σ Qp :=
  zz_Ml.of zz_nwC (wC_ad ad cy) (by decide +kernel) rfl ⟨rfl, rfl⟩ (Nat.le_of_ble_eq_true rfl) (fun p e s m args below meth c A QW K hret => zu4_tilesNeeded_0 K  hret h)
theorem zin_X4_rollsToPaint_X4 : ∀ w ∈ wsX40, w ∈ wsX4_rollsToPaint := fun w h => List.mem_cons_of_mem _ (List.mem_append_left _ (List.mem_append_left _ (List.mem_append_right _ h)))
theorem zlk_X4_rollsToPaint_1 : Cond.fieldLink RX4 33 "SolidsRolled$Search" "size" "I" ∈ wsX4_rollsToPaint := List.mem_of_getElem? (i := 1) rfl
theorem zcCb_m9 : (Int8.ofInt (-9)).toInt32 = (-9 : Int32) := by decide
theorem zlk_X4_rollsToPaint_2 : Cond.fieldLink RX4 21 "SolidsRolled$Search" "queue" "[I" ∈ wsX4_rollsToPaint := List.mem_of_getElem? (i := 2) rfl
theorem zlk_X4_rollsToPaint_3 : Cond.fieldLink RX4 9 "SolidsRolled$Search" "steps" "[I" ∈ wsX4_rollsToPaint := List.mem_of_getElem? (i := 3) rfl
abbrev zrm4_rollsToPaint : Room := { frames := 5, cells := 0, slots := 0, locals := 125 }
set_option maxHeartbeats 4000000 in
set_option maxRecDepth 100000 in
theorem zu4_rollsToPaint_86 {p : Program} {l : Launch} {e : Env} {s : State} {m : MethodId} {args : Array Value} {below : List Frame} {meth : Method} {c : Code} {Q : State → Prop} {D : va_G} {A : Nat → Prop} {ad : Nat → Nat} {cy : Nat → ClassId} {v2 : Int32} {v3 : Int32} {v4 : Int32} {v5 : Int32} {σ : zz_St} (K : zz_K p s m args c cX4_rollsToPaint 7 RX4 wsX4_rollsToPaint D (tysC cy) A (wC ad cy) nwC) {Qp : Int32 → zz_St → Prop} (hret : ∀ (r : Int32) (σ2 : zz_St), narrow .int (.int r) = .int r → Qp r σ2 → ∀ (pc : Nat) (lv : List (Nat × Value)), decode cX4_rollsToPaint pc = .ok (.ireturn, 1) → zz_G p l e zrm4_rollsToPaint s m args below meth c Q D A (wC ad cy) 7 pc lv [.int r] σ2) {B8 : Int32 → Prop} (hB8 : ∀ (v4' : Int32), B8 v4' → zz_G p l e zrm4_rollsToPaint s m args below meth c Q D A (wC ad cy) 7 8 [(0, .ref (ad 4)), (1, .ref (ad 1)), (2, .int v2), (3, .int v3), (4, .int v4')] [] σ) {B20 : Int32 → Prop} (hB20 : ∀ (v5' : Int32), B20 v5' → zz_G p l e zrm4_rollsToPaint s m args below meth c Q D A (wC ad cy) 7 20 [(0, .ref (ad 4)), (1, .ref (ad 1)), (2, .int v2), (3, .int v3), (4, .int v4), (5, .int v5')] [] σ) (h : zq4_rollsToPaint_86 v2 v3 v4 v5 σ Qp B8 B20) : zz_G p l e zrm4_rollsToPaint s m args below meth c Q D A (wC ad cy) 7 86 [(0, .ref (ad 4)), (1, .ref (ad 1)), (2, .int v2), (3, .int v3), (4, .int v4), (5, .int v5)] [] σ := by
  unfold zq4_rollsToPaint_86 at h
  refine zz_iinc K 5 [(5, .int (v5 + (1 : Int32))), (0, .ref (ad 4)), (1, .ref (ad 1)), (2, .int v2), (3, .int v3), (4, .int v4)] dX4_rollsToPaint_86 zcCi_1 rfl (by decide) rfl ?_
  refine zz_goto K 20 dX4_rollsToPaint_89 rfl ?_
  refine zz_sub [1, 2, 3, 4, 5, 0] [(0, .ref (ad 4)), (1, .ref (ad 1)), (2, .int v2), (3, .int v3), (4, .int v4), (5, .int (v5 + (1 : Int32)))] rfl ?_
  exact hB20 (v5 + (1 : Int32)) h
set_option maxHeartbeats 4000000 in
set_option maxRecDepth 100000 in
theorem zu4_rollsToPaint_20 {p : Program} {l : Launch} {e : Env} {s : State} {m : MethodId} {args : Array Value} {below : List Frame} {meth : Method} {c : Code} {Q : State → Prop} {D : va_G} {A : Nat → Prop} {ad : Nat → Nat} {cy : Nat → ClassId} {v2 : Int32} {v3 : Int32} {v4 : Int32} {v5 : Int32} {σ : zz_St} (K : zz_K p s m args c cX4_rollsToPaint 7 RX4 wsX4_rollsToPaint D (tysC cy) A (wC ad cy) nwC) {Qp : Int32 → zz_St → Prop} (hret : ∀ (r : Int32) (σ2 : zz_St), narrow .int (.int r) = .int r → Qp r σ2 → ∀ (pc : Nat) (lv : List (Nat × Value)), decode cX4_rollsToPaint pc = .ok (.ireturn, 1) → zz_G p l e zrm4_rollsToPaint s m args below meth c Q D A (wC ad cy) 7 pc lv [.int r] σ2) {B8 : Int32 → Prop} (hB8 : ∀ (v4' : Int32), B8 v4' → zz_G p l e zrm4_rollsToPaint s m args below meth c Q D A (wC ad cy) 7 8 [(0, .ref (ad 4)), (1, .ref (ad 1)), (2, .int v2), (3, .int v3), (4, .int v4')] [] σ) (h : zq4_rollsToPaint_20 v2 v3 v4 v5 σ Qp B8) : zz_G p l e zrm4_rollsToPaint s m args below meth c Q D A (wC ad cy) 7 20 [(0, .ref (ad 4)), (1, .ref (ad 1)), (2, .int v2), (3, .int v3), (4, .int v4), (5, .int v5)] [] σ := by
  unfold zq4_rollsToPaint_20 at h
  obtain ⟨I20, M20, h0, hs⟩ := h
  have key : ∀ (nq : Nat) (v5 : Int32), M20 v5 < nq → I20 v5 → zz_G p l e zrm4_rollsToPaint s m args below meth c Q D A (wC ad cy) 7 20 [(0, .ref (ad 4)), (1, .ref (ad 1)), (2, .int v2), (3, .int v3), (4, .int v4), (5, .int v5)] [] σ := by
    intro nq
    induction nq with
    | zero => intro v5 hlt; exact absurd hlt (Nat.not_lt_zero _)
    | succ nq ih =>
      intro v5 hlt hI
      have h := hs v5 hI
      have hB20 : ∀ (v5' : Int32), (fun v5' => I20 v5' ∧ M20 v5' < M20 v5) v5' → zz_G p l e zrm4_rollsToPaint s m args below meth c Q D A (wC ad cy) 7 20 [(0, .ref (ad 4)), (1, .ref (ad 1)), (2, .int v2), (3, .int v3), (4, .int v4), (5, .int v5')] [] σ := fun v5' hz => ih v5' (Nat.lt_of_lt_of_le hz.2 (Nat.le_of_lt_succ hlt)) hz.1
      refine zz_iload K 5 dX4_rollsToPaint_20 rfl ?_
      refine zz_iconst K dX4_rollsToPaint_22 zcCi_4 ?_
      refine zz_icmp_ge K 92 dX4_rollsToPaint_23 rfl (fun c10 => ?_) (fun c10 => ?_)
      · have h := (And.left h) c10
        refine zz_iinc K 4 [(4, .int (v4 + (1 : Int32))), (0, .ref (ad 4)), (1, .ref (ad 1)), (2, .int v2), (3, .int v3), (5, .int v5)] dX4_rollsToPaint_92 zcCi_1 rfl (by decide) rfl ?_
        refine zz_goto K 8 dX4_rollsToPaint_95 rfl ?_
        refine zz_sub [1, 2, 3, 4, 0] [(0, .ref (ad 4)), (1, .ref (ad 1)), (2, .int v2), (3, .int v3), (4, .int (v4 + (1 : Int32)))] rfl ?_
        exact hB8 (v4 + (1 : Int32)) h
      · have h := (And.right h) c10
        refine zz_aload_n K 1 dX4_rollsToPaint_26 rfl rfl ?_
        refine zz_aload_n K 0 dX4_rollsToPaint_27 rfl rfl ?_
        refine zg4_3_0 K zin_X4_rollsToPaint_X4 zlk_X4_rollsToPaint_2 dX4_rollsToPaint_28 ?_
        refine zz_iload K 4 dX4_rollsToPaint_31 rfl ?_
        obtain ⟨hin, h⟩ := h
        refine zz_iaload K 0 (wC_at_22 ad cy σ) rfl hin dX4_rollsToPaint_33 ?_
        refine zz_iload K 5 dX4_rollsToPaint_34 rfl ?_
        refine zz_callVi1 K zz_nwC [.int ((σ).2.1 22 v4.toNatClampNeg), .int v5] (zc6_rolled l D ad cy ((σ).2.1 22 v4.toNatClampNeg) v5 σ _  h) gX4_rollsToPaint_X6_rolled rfl ⟨rfl, rfl⟩ zdsC_yX6_rolled_v ⟨Nat.le_of_ble_eq_true rfl, Nat.le_of_ble_eq_true rfl⟩ (wC_at_1 ad cy σ) rfl rfl rfl rfl (Nat.le_of_ble_eq_true rfl) dX4_rollsToPaint_36 (fun r11 h => ?_)
        refine zz_istore K [(6, .int r11), (0, .ref (ad 4)), (1, .ref (ad 1)), (2, .int v2), (3, .int v3), (4, .int v4), (5, .int v5)] dX4_rollsToPaint_39 (by decide) rfl ?_
        refine zz_iload K 0 dX4_rollsToPaint_41 rfl ?_
        refine zz_if_lt K 86 dX4_rollsToPaint_43 rfl (fun c12 => ?_) (fun c12 => ?_)
        · have h := (And.left h) c12
          refine zz_sub [1, 2, 3, 4, 5, 6] [(0, .ref (ad 4)), (1, .ref (ad 1)), (2, .int v2), (3, .int v3), (4, .int v4), (5, .int v5)] rfl ?_
          exact zu4_rollsToPaint_86 K hret hB8 hB20 h
        · have h := (And.right h) c12
          refine zz_aload_n K 2 dX4_rollsToPaint_46 rfl rfl ?_
          refine zz_iload K 0 dX4_rollsToPaint_47 rfl ?_
          refine zz_callVi1 K zz_nwC [.int r11] (zc6_faceBelow l D ad cy r11 σ _  h) gX4_rollsToPaint_X6_faceBelow rfl ⟨rfl, rfl⟩ zdsC_yX6_faceBelow_v ⟨Nat.le_of_ble_eq_true rfl, Nat.le_of_ble_eq_true rfl⟩ (wC_at_1 ad cy σ) rfl rfl rfl rfl (Nat.le_of_ble_eq_true rfl) dX4_rollsToPaint_49 (fun r13 h => ?_)
          refine zz_iload_n K 4 dX4_rollsToPaint_52 rfl rfl ?_
          refine zz_icmp_ne K 86 dX4_rollsToPaint_53 rfl (fun c14 => ?_) (fun c14 => ?_)
          · have h := (And.left h) c14
            refine zz_sub [1, 2, 3, 4, 5, 6] [(0, .ref (ad 4)), (1, .ref (ad 1)), (2, .int v2), (3, .int v3), (4, .int v4), (5, .int v5)] rfl ?_
            exact zu4_rollsToPaint_86 K hret hB8 hB20 h
          · have h := (And.right h) c14
            refine zz_aload_n K 2 dX4_rollsToPaint_56 rfl rfl ?_
            refine zz_iload K 0 dX4_rollsToPaint_57 rfl ?_
            refine zz_callVl1 K zz_nwC [.int r11] (zc6_tilesUnder l D ad cy r11 σ _  h) gX4_rollsToPaint_X6_tilesUnder rfl ⟨rfl, rfl⟩ zdsC_yX6_tilesUnder_v ⟨Nat.le_of_ble_eq_true rfl, Nat.le_of_ble_eq_true rfl⟩ (wC_at_1 ad cy σ) rfl rfl rfl rfl (Nat.le_of_ble_eq_true rfl) dX4_rollsToPaint_59 (fun r15 h => ?_)
            refine zz_iload_n K 3 dX4_rollsToPaint_62 rfl rfl ?_
            refine zz_lshr K dX4_rollsToPaint_63 ?_
            refine zz_lconst K (v := (1 : Int64)) dX4_rollsToPaint_64 rfl ?_
            refine zz_land K dX4_rollsToPaint_65 ?_
            refine zz_lconst K (v := (1 : Int64)) dX4_rollsToPaint_66 rfl ?_
            refine zz_lcmp K dX4_rollsToPaint_67 ?_
            refine zz_if_ne K 86 dX4_rollsToPaint_68 rfl (fun c16 => ?_) (fun c16 => ?_)
            · have h := (And.left h) c16
              refine zz_sub [1, 2, 3, 4, 5, 6] [(0, .ref (ad 4)), (1, .ref (ad 1)), (2, .int v2), (3, .int v3), (4, .int v4), (5, .int v5)] rfl ?_
              exact zu4_rollsToPaint_86 K hret hB8 hB20 h
            · have h := (And.right h) c16
              refine zz_aload_n K 1 dX4_rollsToPaint_71 rfl rfl ?_
              refine zg4_0_0 K zin_X4_rollsToPaint_X4 zlk_X4_rollsToPaint_3 dX4_rollsToPaint_72 ?_
              refine zz_aload_n K 1 dX4_rollsToPaint_75 rfl rfl ?_
              refine zg4_3_0 K zin_X4_rollsToPaint_X4 zlk_X4_rollsToPaint_2 dX4_rollsToPaint_76 ?_
              refine zz_iload K 5 dX4_rollsToPaint_79 rfl ?_
              obtain ⟨hin, h⟩ := h
              refine zz_iaload K 0 (wC_at_22 ad cy σ) rfl hin dX4_rollsToPaint_81 ?_
              obtain ⟨hin, h⟩ := h
              refine zz_iaload K 0 (wC_at_19 ad cy σ) rfl hin dX4_rollsToPaint_82 ?_
              refine zz_iconst K dX4_rollsToPaint_83 zcCi_1 ?_
              refine zz_iadd K dX4_rollsToPaint_84 ?_
              exact hret _ _ rfl h _ _ dX4_rollsToPaint_85
  exact key _ v5 (Nat.lt_succ_self _) h0
set_option maxHeartbeats 4000000 in
set_option maxRecDepth 100000 in
theorem zu4_rollsToPaint_8 {p : Program} {l : Launch} {e : Env} {s : State} {m : MethodId} {args : Array Value} {below : List Frame} {meth : Method} {c : Code} {Q : State → Prop} {D : va_G} {A : Nat → Prop} {ad : Nat → Nat} {cy : Nat → ClassId} {v2 : Int32} {v3 : Int32} {v4 : Int32} {σ : zz_St} (K : zz_K p s m args c cX4_rollsToPaint 7 RX4 wsX4_rollsToPaint D (tysC cy) A (wC ad cy) nwC) {Qp : Int32 → zz_St → Prop} (hret : ∀ (r : Int32) (σ2 : zz_St), narrow .int (.int r) = .int r → Qp r σ2 → ∀ (pc : Nat) (lv : List (Nat × Value)), decode cX4_rollsToPaint pc = .ok (.ireturn, 1) → zz_G p l e zrm4_rollsToPaint s m args below meth c Q D A (wC ad cy) 7 pc lv [.int r] σ2) (h : zq4_rollsToPaint_8 v2 v3 v4 σ Qp) : zz_G p l e zrm4_rollsToPaint s m args below meth c Q D A (wC ad cy) 7 8 [(0, .ref (ad 4)), (1, .ref (ad 1)), (2, .int v2), (3, .int v3), (4, .int v4)] [] σ := by
  unfold zq4_rollsToPaint_8 at h
  obtain ⟨I8, M8, h0, hs⟩ := h
  have key : ∀ (nq : Nat) (v4 : Int32), M8 v4 < nq → I8 v4 → zz_G p l e zrm4_rollsToPaint s m args below meth c Q D A (wC ad cy) 7 8 [(0, .ref (ad 4)), (1, .ref (ad 1)), (2, .int v2), (3, .int v3), (4, .int v4)] [] σ := by
    intro nq
    induction nq with
    | zero => intro v4 hlt; exact absurd hlt (Nat.not_lt_zero _)
    | succ nq ih =>
      intro v4 hlt hI
      have h := hs v4 hI
      have hB8 : ∀ (v4' : Int32), (fun v4' => I8 v4' ∧ M8 v4' < M8 v4) v4' → zz_G p l e zrm4_rollsToPaint s m args below meth c Q D A (wC ad cy) 7 8 [(0, .ref (ad 4)), (1, .ref (ad 1)), (2, .int v2), (3, .int v3), (4, .int v4')] [] σ := fun v4' hz => ih v4' (Nat.lt_of_lt_of_le hz.2 (Nat.le_of_lt_succ hlt)) hz.1
      refine zz_iload K 4 dX4_rollsToPaint_8 rfl ?_
      refine zz_aload_n K 0 dX4_rollsToPaint_10 rfl rfl ?_
      refine zg4_7_0 K zin_X4_rollsToPaint_X4 zlk_X4_rollsToPaint_1 dX4_rollsToPaint_11 ?_
      refine zz_icmp_ge K 98 dX4_rollsToPaint_14 rfl (fun c17 => ?_) (fun c17 => ?_)
      · have h := (And.left h) c17
        refine zz_bipush K dX4_rollsToPaint_98 zcCb_m9 ?_
        exact hret _ _ rfl h _ _ dX4_rollsToPaint_100
      · have h := (And.right h) c17
        refine zz_iconst K dX4_rollsToPaint_17 zcCi_0 ?_
        refine zz_istore K [(5, .int (0 : Int32)), (0, .ref (ad 4)), (1, .ref (ad 1)), (2, .int v2), (3, .int v3), (4, .int v4)] dX4_rollsToPaint_18 (by decide) rfl ?_
        refine zz_sub [1, 2, 3, 4, 5, 0] [(0, .ref (ad 4)), (1, .ref (ad 1)), (2, .int v2), (3, .int v3), (4, .int v4), (5, .int (0 : Int32))] rfl ?_
        exact zu4_rollsToPaint_20 K hret hB8 h
  exact key _ v4 (Nat.lt_succ_self _) h0
set_option maxHeartbeats 4000000 in
set_option maxRecDepth 100000 in
theorem zu4_rollsToPaint_0 {p : Program} {l : Launch} {e : Env} {s : State} {m : MethodId} {args : Array Value} {below : List Frame} {meth : Method} {c : Code} {Q : State → Prop} {D : va_G} {A : Nat → Prop} {ad : Nat → Nat} {cy : Nat → ClassId} {v2 : Int32} {v3 : Int32} {σ : zz_St} (K : zz_K p s m args c cX4_rollsToPaint 7 RX4 wsX4_rollsToPaint D (tysC cy) A (wC ad cy) nwC) {Qp : Int32 → zz_St → Prop} (hret : ∀ (r : Int32) (σ2 : zz_St), narrow .int (.int r) = .int r → Qp r σ2 → ∀ (pc : Nat) (lv : List (Nat × Value)), decode cX4_rollsToPaint pc = .ok (.ireturn, 1) → zz_G p l e zrm4_rollsToPaint s m args below meth c Q D A (wC ad cy) 7 pc lv [.int r] σ2) (h : zq4_rollsToPaint v2 v3 σ Qp) : zz_G p l e zrm4_rollsToPaint s m args below meth c Q D A (wC ad cy) 7 0 [(0, .ref (ad 4)), (1, .ref (ad 1)), (2, .int v2), (3, .int v3)] [] σ := by
  unfold zq4_rollsToPaint at h
  refine zz_aload_n K 0 dX4_rollsToPaint_0 rfl rfl ?_
  refine zz_aload_n K 1 dX4_rollsToPaint_1 rfl rfl ?_
  refine zz_callVv K zz_nwC [.ref (ad 1)] (zc4_floodAll l D ad cy  σ _  h) gX4_rollsToPaint_X4_floodAll rfl ⟨rfl, rfl⟩ zdsC_yX4_floodAll_v ⟨Nat.le_of_ble_eq_true rfl, Nat.le_of_ble_eq_true rfl⟩ (wC_at_4 ad cy σ) rfl rfl rfl rfl (Nat.le_of_ble_eq_true rfl) dX4_rollsToPaint_2 (fun g18 h => ?_)
  refine zz_iconst K dX4_rollsToPaint_5 zcCi_0 ?_
  refine zz_istore K [(4, .int (0 : Int32)), (0, .ref (ad 4)), (1, .ref (ad 1)), (2, .int v2), (3, .int v3)] dX4_rollsToPaint_6 (by decide) rfl ?_
  refine zz_sub [1, 2, 3, 4, 0] [(0, .ref (ad 4)), (1, .ref (ad 1)), (2, .int v2), (3, .int v3), (4, .int (0 : Int32))] rfl ?_
  exact zu4_rollsToPaint_8 K hret h
set_option maxRecDepth 100000 in
theorem zc4_rollsToPaint (l : Launch) (D : va_G) (ad : Nat → Nat) (cy : Nat → ClassId) (v2 : Int32) (v3 : Int32) (σ : zz_St) (Qp : Int32 → zz_St → Prop) (h : zq4_rollsToPaint v2 v3 σ Qp) : zz_Mi l yX4_rollsToPaint wsX4_rollsToPaint zrm4_rollsToPaint D (tysC cy) (wC ad cy) nwC [.ref (ad 4), .ref (ad 1), .int v2, .int v3] σ Qp :=
  zz_Mi.of zz_nwC (wC_ad ad cy) (by decide +kernel) rfl ⟨rfl, rfl⟩ (Nat.le_of_ble_eq_true rfl) (fun p e s m args below meth c A QW K hret => zu4_rollsToPaint_0 K  hret h)
theorem zin_X4_spread_X4 : ∀ w ∈ wsX40, w ∈ wsX4_spread := fun w h => List.mem_cons_of_mem _ (List.mem_append_left _ (List.mem_append_left _ (List.mem_append_right _ h)))
theorem zlk_X4_spread_1 : Cond.fieldLink RX4 30 "SolidsRolled$Search" "then" "[I" ∈ wsX4_spread := List.mem_of_getElem? (i := 1) rfl
theorem zlk_X4_spread_2 : Cond.fieldLink RX4 27 "SolidsRolled$Search" "now" "[I" ∈ wsX4_spread := List.mem_of_getElem? (i := 2) rfl
theorem zlk_X4_spread_3 : Cond.methodLink RX4 100 arraycopyName ∈ wsX4_spread := List.mem_of_getElem? (i := 3) rfl
theorem zlk_X4_spread_4 : Cond.native arraycopyName ∈ wsX4_spread := List.mem_of_getElem? (i := 4) rfl
theorem zlk_X4_spread_5 : Cond.static arraycopyName ∈ wsX4_spread := List.mem_of_getElem? (i := 5) rfl
theorem zlk_X4_spread_6 : Cond.initialized "java/lang/System" ∈ wsX4_spread := List.mem_of_getElem? (i := 6) rfl
abbrev zrm4_spread : Room := { frames := 3, cells := 0, slots := 0, locals := 77 }
set_option maxHeartbeats 4000000 in
set_option maxRecDepth 100000 in
theorem zu4_spread_56 {p : Program} {l : Launch} {e : Env} {s : State} {m : MethodId} {args : Array Value} {below : List Frame} {meth : Method} {c : Code} {Q : State → Prop} {D : va_G} {A : Nat → Prop} {ad : Nat → Nat} {cy : Nat → ClassId} {v2 : Int32} {v3 : Int32} {s0 : Int32} {σ : zz_St} (K : zz_K p s m args c cX4_spread 5 RX4 wsX4_spread D (tysC cy) A (wC ad cy) nwC) {Qp : zz_St → Prop} (hret : ∀ (σ2 : zz_St), Qp σ2 → ∀ (pc : Nat) (lv : List (Nat × Value)), decode cX4_spread pc = .ok (.return_, 1) → zz_G p l e zrm4_spread s m args below meth c Q D A (wC ad cy) 5 pc lv [] σ2) {B10 : Int32 → zz_St → Prop} (hB10 : ∀ (v2' : Int32) (σ' : zz_St), B10 v2' σ' → zz_G p l e zrm4_spread s m args below meth c Q D A (wC ad cy) 5 10 [(0, .ref (ad 4)), (1, .ref (ad 1)), (2, .int v2')] [] σ') {B19 : Int32 → zz_St → Prop} (hB19 : ∀ (v3' : Int32) (σ' : zz_St), B19 v3' σ' → zz_G p l e zrm4_spread s m args below meth c Q D A (wC ad cy) 5 19 [(0, .ref (ad 4)), (1, .ref (ad 1)), (2, .int v2), (3, .int v3')] [] σ') (h : zq4_spread_56 v2 v3 s0 σ Qp B10 B19) : zz_G p l e zrm4_spread s m args below meth c Q D A (wC ad cy) 5 56 [(0, .ref (ad 4)), (1, .ref (ad 1)), (2, .int v2), (3, .int v3)] [.int s0, .ref (ad 25)] σ := by
  unfold zq4_spread_56 at h
  refine zz_dup2 K rfl rfl dX4_spread_56 ?_
  obtain ⟨hin, h⟩ := h
  refine zz_iaload K 0 (wC_at_25 ad cy σ) rfl hin dX4_spread_57 ?_
  refine zz_aload_n K 0 dX4_spread_58 rfl rfl ?_
  refine zg4_5_0 K zin_X4_spread_X4 zlk_X4_spread_2 dX4_spread_59 ?_
  refine zz_iload_n K 2 dX4_spread_62 rfl rfl ?_
  obtain ⟨hin, h⟩ := h
  refine zz_iaload K 0 (wC_at_24 ad cy σ) rfl hin dX4_spread_63 ?_
  refine zz_iadd K dX4_spread_64 ?_
  obtain ⟨hin, h⟩ := h
  refine zz_iastore K 0 (σ2 := zz_A σ 25 (upd ((σ).2.1 25) s0.toNatClampNeg (((σ).2.1 25 s0.toNatClampNeg) + ((σ).2.1 24 v2.toNatClampNeg)))) (wC_at_25 ad cy σ) (wC_set_25 ad cy σ _) rfl hin dX4_spread_65 ?_
  refine zz_nms (fun g11 eg11 => ?_)
  have h := h g11 eg11
  refine zz_iinc K 3 [(3, .int (v3 + (1 : Int32))), (0, .ref (ad 4)), (1, .ref (ad 1)), (2, .int v2)] dX4_spread_66 zcCi_1 rfl (by decide) rfl ?_
  refine zz_goto K 19 dX4_spread_69 rfl ?_
  refine zz_sub [1, 2, 3, 0] [(0, .ref (ad 4)), (1, .ref (ad 1)), (2, .int v2), (3, .int (v3 + (1 : Int32)))] rfl ?_
  exact hB19 (v3 + (1 : Int32)) g11 h
set_option maxHeartbeats 4000000 in
set_option maxRecDepth 100000 in
theorem zu4_spread_72 {p : Program} {l : Launch} {e : Env} {s : State} {m : MethodId} {args : Array Value} {below : List Frame} {meth : Method} {c : Code} {Q : State → Prop} {D : va_G} {A : Nat → Prop} {ad : Nat → Nat} {cy : Nat → ClassId} {v2 : Int32} {σ : zz_St} (K : zz_K p s m args c cX4_spread 5 RX4 wsX4_spread D (tysC cy) A (wC ad cy) nwC) {Qp : zz_St → Prop} (hret : ∀ (σ2 : zz_St), Qp σ2 → ∀ (pc : Nat) (lv : List (Nat × Value)), decode cX4_spread pc = .ok (.return_, 1) → zz_G p l e zrm4_spread s m args below meth c Q D A (wC ad cy) 5 pc lv [] σ2) {B10 : Int32 → zz_St → Prop} (hB10 : ∀ (v2' : Int32) (σ' : zz_St), B10 v2' σ' → zz_G p l e zrm4_spread s m args below meth c Q D A (wC ad cy) 5 10 [(0, .ref (ad 4)), (1, .ref (ad 1)), (2, .int v2')] [] σ') (h : zq4_spread_72 v2 σ Qp B10) : zz_G p l e zrm4_spread s m args below meth c Q D A (wC ad cy) 5 72 [(0, .ref (ad 4)), (1, .ref (ad 1)), (2, .int v2)] [] σ := by
  unfold zq4_spread_72 at h
  refine zz_iinc K 2 [(2, .int (v2 + (1 : Int32))), (0, .ref (ad 4)), (1, .ref (ad 1))] dX4_spread_72 zcCi_1 rfl (by decide) rfl ?_
  refine zz_goto K 10 dX4_spread_75 rfl ?_
  refine zz_sub [1, 2, 0] [(0, .ref (ad 4)), (1, .ref (ad 1)), (2, .int (v2 + (1 : Int32)))] rfl ?_
  exact hB10 (v2 + (1 : Int32)) σ h
set_option maxHeartbeats 4000000 in
set_option maxRecDepth 100000 in
theorem zu4_spread_19 {p : Program} {l : Launch} {e : Env} {s : State} {m : MethodId} {args : Array Value} {below : List Frame} {meth : Method} {c : Code} {Q : State → Prop} {D : va_G} {A : Nat → Prop} {ad : Nat → Nat} {cy : Nat → ClassId} {v2 : Int32} {v3 : Int32} {σ : zz_St} (K : zz_K p s m args c cX4_spread 5 RX4 wsX4_spread D (tysC cy) A (wC ad cy) nwC) {Qp : zz_St → Prop} (hret : ∀ (σ2 : zz_St), Qp σ2 → ∀ (pc : Nat) (lv : List (Nat × Value)), decode cX4_spread pc = .ok (.return_, 1) → zz_G p l e zrm4_spread s m args below meth c Q D A (wC ad cy) 5 pc lv [] σ2) {B10 : Int32 → zz_St → Prop} (hB10 : ∀ (v2' : Int32) (σ' : zz_St), B10 v2' σ' → zz_G p l e zrm4_spread s m args below meth c Q D A (wC ad cy) 5 10 [(0, .ref (ad 4)), (1, .ref (ad 1)), (2, .int v2')] [] σ') (h : zq4_spread_19 v2 v3 σ Qp B10) : zz_G p l e zrm4_spread s m args below meth c Q D A (wC ad cy) 5 19 [(0, .ref (ad 4)), (1, .ref (ad 1)), (2, .int v2), (3, .int v3)] [] σ := by
  unfold zq4_spread_19 at h
  obtain ⟨I19, M19, h0, hs⟩ := h
  have key : ∀ (nq : Nat) (v3 : Int32) (σ : zz_St), M19 v3 σ < nq → I19 v3 σ → zz_G p l e zrm4_spread s m args below meth c Q D A (wC ad cy) 5 19 [(0, .ref (ad 4)), (1, .ref (ad 1)), (2, .int v2), (3, .int v3)] [] σ := by
    intro nq
    induction nq with
    | zero => intro v3 σ hlt; exact absurd hlt (Nat.not_lt_zero _)
    | succ nq ih =>
      intro v3 σ hlt hI
      have h := hs v3 σ hI
      have hB19 : ∀ (v3' : Int32) (σ' : zz_St), (fun v3' σ' => I19 v3' σ' ∧ M19 v3' σ' < M19 v3 σ) v3' σ' → zz_G p l e zrm4_spread s m args below meth c Q D A (wC ad cy) 5 19 [(0, .ref (ad 4)), (1, .ref (ad 1)), (2, .int v2), (3, .int v3')] [] σ' := fun v3' σ' hz => ih v3' σ' (Nat.lt_of_lt_of_le hz.2 (Nat.le_of_lt_succ hlt)) hz.1
      refine zz_iload_n K 3 dX4_spread_19 rfl rfl ?_
      refine zz_iconst K dX4_spread_20 zcCi_4 ?_
      refine zz_icmp_ge K 72 dX4_spread_21 rfl (fun c12 => ?_) (fun c12 => ?_)
      · have h := (And.left h) c12
        refine zz_sub [0, 1, 2] [(0, .ref (ad 4)), (1, .ref (ad 1)), (2, .int v2)] rfl ?_
        exact zu4_spread_72 K hret hB10 h
      · have h := (And.right h) c12
        refine zz_aload_n K 0 dX4_spread_24 rfl rfl ?_
        refine zg4_5_0 K zin_X4_spread_X4 zlk_X4_spread_2 dX4_spread_25 ?_
        refine zz_iload_n K 2 dX4_spread_28 rfl rfl ?_
        obtain ⟨hin, h⟩ := h
        refine zz_iaload K 0 (wC_at_24 ad cy σ) rfl hin dX4_spread_29 ?_
        refine zz_if_le K 72 dX4_spread_30 rfl (fun c13 => ?_) (fun c13 => ?_)
        · have h := (And.left h) c13
          refine zz_sub [0, 1, 2] [(0, .ref (ad 4)), (1, .ref (ad 1)), (2, .int v2)] rfl ?_
          exact zu4_spread_72 K hret hB10 h
        · have h := (And.right h) c13
          refine zz_aload_n K 1 dX4_spread_33 rfl rfl ?_
          refine zz_iload_n K 2 dX4_spread_34 rfl rfl ?_
          refine zz_iload_n K 3 dX4_spread_35 rfl rfl ?_
          refine zz_callVi1 K zz_nwC [.int v2, .int v3] (zc6_rolled l D ad cy v2 v3 σ _  h) gX4_spread_X6_rolled rfl ⟨rfl, rfl⟩ zdsC_yX6_rolled_v ⟨Nat.le_of_ble_eq_true rfl, Nat.le_of_ble_eq_true rfl⟩ (wC_at_1 ad cy σ) rfl rfl rfl rfl (Nat.le_of_ble_eq_true rfl) dX4_spread_36 (fun r14 h => ?_)
          refine zz_istore K [(4, .int r14), (0, .ref (ad 4)), (1, .ref (ad 1)), (2, .int v2), (3, .int v3)] dX4_spread_39 (by decide) rfl ?_
          refine zz_aload_n K 1 dX4_spread_41 rfl rfl ?_
          refine zg4_6_0 K zin_X4_spread_X4 zlk_X4_spread_1 dX4_spread_42 ?_
          refine zz_iload K 0 dX4_spread_45 rfl ?_
          refine zz_if_lt K 55 dX4_spread_47 rfl (fun c15 => ?_) (fun c15 => ?_)
          · have h := (And.left h) c15
            refine zz_iload_n K 3 dX4_spread_55 rfl rfl ?_
            refine zz_sub [1, 2, 3, 4] [(0, .ref (ad 4)), (1, .ref (ad 1)), (2, .int v2), (3, .int v3)] rfl ?_
            exact zu4_spread_56 K hret hB10 hB19 h
          · have h := (And.right h) c15
            refine zz_iload K 0 dX4_spread_50 rfl ?_
            refine zz_goto K 56 dX4_spread_52 rfl ?_
            refine zz_sub [1, 2, 3, 4] [(0, .ref (ad 4)), (1, .ref (ad 1)), (2, .int v2), (3, .int v3)] rfl ?_
            exact zu4_spread_56 K hret hB10 hB19 h
  exact key _ v3 σ (Nat.lt_succ_self _) h0
set_option maxHeartbeats 4000000 in
set_option maxRecDepth 100000 in
theorem zu4_spread_10 {p : Program} {l : Launch} {e : Env} {s : State} {m : MethodId} {args : Array Value} {below : List Frame} {meth : Method} {c : Code} {Q : State → Prop} {D : va_G} {A : Nat → Prop} {ad : Nat → Nat} {cy : Nat → ClassId} {v2 : Int32} {σ : zz_St} (K : zz_K p s m args c cX4_spread 5 RX4 wsX4_spread D (tysC cy) A (wC ad cy) nwC) {Qp : zz_St → Prop} (hret : ∀ (σ2 : zz_St), Qp σ2 → ∀ (pc : Nat) (lv : List (Nat × Value)), decode cX4_spread pc = .ok (.return_, 1) → zz_G p l e zrm4_spread s m args below meth c Q D A (wC ad cy) 5 pc lv [] σ2) (h : zq4_spread_10 v2 σ Qp) : zz_G p l e zrm4_spread s m args below meth c Q D A (wC ad cy) 5 10 [(0, .ref (ad 4)), (1, .ref (ad 1)), (2, .int v2)] [] σ := by
  unfold zq4_spread_10 at h
  obtain ⟨I10, M10, h0, hs⟩ := h
  have key : ∀ (nq : Nat) (v2 : Int32) (σ : zz_St), M10 v2 σ < nq → I10 v2 σ → zz_G p l e zrm4_spread s m args below meth c Q D A (wC ad cy) 5 10 [(0, .ref (ad 4)), (1, .ref (ad 1)), (2, .int v2)] [] σ := by
    intro nq
    induction nq with
    | zero => intro v2 σ hlt; exact absurd hlt (Nat.not_lt_zero _)
    | succ nq ih =>
      intro v2 σ hlt hI
      have h := hs v2 σ hI
      have hB10 : ∀ (v2' : Int32) (σ' : zz_St), (fun v2' σ' => I10 v2' σ' ∧ M10 v2' σ' < M10 v2 σ) v2' σ' → zz_G p l e zrm4_spread s m args below meth c Q D A (wC ad cy) 5 10 [(0, .ref (ad 4)), (1, .ref (ad 1)), (2, .int v2')] [] σ' := fun v2' σ' hz => ih v2' σ' (Nat.lt_of_lt_of_le hz.2 (Nat.le_of_lt_succ hlt)) hz.1
      refine zz_iload_n K 2 dX4_spread_10 rfl rfl ?_
      refine zz_sipush K dX4_spread_11 zcCs_1728 ?_
      refine zz_icmp_ge K 78 dX4_spread_14 rfl (fun c16 => ?_) (fun c16 => ?_)
      · have h := (And.left h) c16
        refine zz_aload_n K 0 dX4_spread_78 rfl rfl ?_
        refine zg4_6_0 K zin_X4_spread_X4 zlk_X4_spread_1 dX4_spread_79 ?_
        refine zz_iconst K dX4_spread_82 zcCi_0 ?_
        refine zz_aload_n K 0 dX4_spread_83 rfl rfl ?_
        refine zg4_5_0 K zin_X4_spread_X4 zlk_X4_spread_2 dX4_spread_84 ?_
        refine zz_iconst K dX4_spread_87 zcCi_0 ?_
        refine zz_sipush K dX4_spread_88 zcCs_1728 ?_
        obtain ⟨q1, q2, q3, q4, q5, h⟩ := h
        refine zz_copy K (σ2 := zz_A σ 24 (va_cpy ((σ).2.1 25) ((σ).2.1 24) (0 : Int32).toNatClampNeg (0 : Int32).toNatClampNeg (1728 : Int32).toNatClampNeg)) 0 0 zlk_X4_spread_3 zlk_X4_spread_4 zlk_X4_spread_5 zlk_X4_spread_6 (wC_at_25 ad cy σ) (wC_at_24 ad cy σ) (wC_set_24 ad cy σ _) rfl rfl q1 q2 q3 q4 q5 (Nat.le_of_ble_eq_true rfl) (Nat.le_of_ble_eq_true rfl) dX4_spread_91 ?_
        refine zz_nms (fun g17 eg17 => ?_)
        have h := h g17 eg17
        exact hret _ h _ _ dX4_spread_94
      · have h := (And.right h) c16
        refine zz_iconst K dX4_spread_17 zcCi_0 ?_
        refine zz_istore_n K [(3, .int (0 : Int32)), (0, .ref (ad 4)), (1, .ref (ad 1)), (2, .int v2)] dX4_spread_18 rfl (by decide) rfl ?_
        refine zz_sub [1, 2, 3, 0] [(0, .ref (ad 4)), (1, .ref (ad 1)), (2, .int v2), (3, .int (0 : Int32))] rfl ?_
        exact zu4_spread_19 K hret hB10 h
  exact key _ v2 σ (Nat.lt_succ_self _) h0
set_option maxHeartbeats 4000000 in
set_option maxRecDepth 100000 in
theorem zu4_spread_0 {p : Program} {l : Launch} {e : Env} {s : State} {m : MethodId} {args : Array Value} {below : List Frame} {meth : Method} {c : Code} {Q : State → Prop} {D : va_G} {A : Nat → Prop} {ad : Nat → Nat} {cy : Nat → ClassId}  {σ : zz_St} (K : zz_K p s m args c cX4_spread 5 RX4 wsX4_spread D (tysC cy) A (wC ad cy) nwC) {Qp : zz_St → Prop} (hret : ∀ (σ2 : zz_St), Qp σ2 → ∀ (pc : Nat) (lv : List (Nat × Value)), decode cX4_spread pc = .ok (.return_, 1) → zz_G p l e zrm4_spread s m args below meth c Q D A (wC ad cy) 5 pc lv [] σ2) (h : zq4_spread σ Qp) : zz_G p l e zrm4_spread s m args below meth c Q D A (wC ad cy) 5 0 [(0, .ref (ad 4)), (1, .ref (ad 1))] [] σ := by
  unfold zq4_spread at h
  refine zz_aload_n K 0 dX4_spread_0 rfl rfl ?_
  refine zg4_6_0 K zin_X4_spread_X4 zlk_X4_spread_1 dX4_spread_1 ?_
  refine zz_iconst K dX4_spread_4 zcCi_0 ?_
  refine zz_fill K 0 (fun z => zz_A σ 25 z) (wC_at_25 ad cy σ) (wC_set_25 ad cy σ) rfl (by decide) gX4_spread_J7_fill_53178 (Nat.le_of_ble_eq_true rfl) (Nat.le_of_ble_eq_true rfl) (Nat.le_of_ble_eq_true rfl) dX4_spread_5 (fun f18 e19 => ?_)
  have h := h f18 e19
  refine zz_nms (fun g20 eg20 => ?_)
  have h := h g20 eg20
  refine zz_iconst K dX4_spread_8 zcCi_0 ?_
  refine zz_istore_n K [(2, .int (0 : Int32)), (0, .ref (ad 4)), (1, .ref (ad 1))] dX4_spread_9 rfl (by decide) rfl ?_
  refine zz_sub [1, 2, 0] [(0, .ref (ad 4)), (1, .ref (ad 1)), (2, .int (0 : Int32))] rfl ?_
  exact zu4_spread_10 K hret h
set_option maxRecDepth 100000 in
theorem zc4_spread (l : Launch) (D : va_G) (ad : Nat → Nat) (cy : Nat → ClassId)  (σ : zz_St) (Qp : zz_St → Prop) (h : zq4_spread σ Qp) : zz_Mv l yX4_spread wsX4_spread zrm4_spread D (tysC cy) (wC ad cy) nwC [.ref (ad 4), .ref (ad 1)] σ Qp :=
  zz_Mv.of zz_nwC (wC_ad ad cy) (by decide +kernel) rfl ⟨rfl, rfl⟩ (Nat.le_of_ble_eq_true rfl) (fun p e s m args below meth c A QW K hret => zu4_spread_0 K  hret h)
