theorem zcb_50 : (Int8.ofInt (50)).toInt32 = (50 : Int32) := by decide
theorem zin_X8_lots_X8 : ∀ w ∈ wsX80, w ∈ wsX8_lots := fun w h => List.mem_cons_of_mem _ (List.mem_append_right _ h)
theorem zlk_X8_lots_1 : Cond.fieldLink RX8 38 "SolidsRolledModel" "isThere" "Z" ∈ wsX8_lots := List.mem_of_getElem? (i := 1) rfl
theorem zlk_X8_lots_5 : Cond.fieldLink RX8 147 "SolidsRolledModel" "place" "I" ∈ wsX8_lots := List.mem_of_getElem? (i := 5) rfl
theorem zlk_X8_lots_2 : Cond.constant RX8 312 (1664525) ∈ wsX8_lots := List.mem_of_getElem? (i := 2) rfl
theorem zlk_X8_lots_3 : Cond.constant RX8 313 (1013904223) ∈ wsX8_lots := List.mem_of_getElem? (i := 3) rfl
theorem zlk_X8_lots_4 : Cond.constant RX8 314 (2147483647) ∈ wsX8_lots := List.mem_of_getElem? (i := 4) rfl
theorem zcs_256 : (Int16.ofInt (256)).toInt32 = (256 : Int32) := by decide
abbrev zrm8_lots : Room := { frames := 5, cells := 0, slots := 0, locals := 114 }
set_option maxHeartbeats 4000000 in
set_option maxRecDepth 100000 in
theorem zu8_lots_113 {p : Program} {l : Launch} {e : Env} {s : State} {m : MethodId} {args : Array Value} {below : List Frame} {meth : Method} {c : Code} {Q : State → Prop} {D : va_G} {A : Nat → Prop} {ad : Nat → Nat} {cy : Nat → ClassId} {v1 : Int32} {v3 : Int32} {v4 : Int32} {v6 : Int32} {s0 : Int32} {s1 : Int32} {σ : zz_St} (K : zz_K p s m args c cX8_lots 7 RX8 wsX8_lots D (tysM cy) A (wM ad cy) []) {Qp : Int32 → zz_St → Prop} (hret : ∀ (r : Int32) (σ2 : zz_St), narrow .int (.int r) = .int r → Qp r σ2 → ∀ (pc : Nat) (lv : List (Nat × Value)), decode cX8_lots pc = .ok (.ireturn, 1) → zz_G p l e zrm8_lots s m args below meth c Q D A (wM ad cy) 7 pc lv [.int r] σ2) {B69 : Int32 → Int32 → Int32 → zz_St → Prop} (hB69 : ∀ (v4' : Int32) (v5' : Int32) (v6' : Int32) (σ' : zz_St), B69 v4' v5' v6' σ' → zz_G p l e zrm8_lots s m args below meth c Q D A (wM ad cy) 7 69 [(0, .ref (ad 0)), (1, .int v1), (3, .int v3), (4, .int v4'), (5, .int v5'), (6, .int v6')] [] σ') (h : zq8_lots_113 v1 v3 v4 v6 s0 s1 σ Qp B69) : zz_G p l e zrm8_lots s m args below meth c Q D A (wM ad cy) 7 113 [(0, .ref (ad 0)), (1, .int v1), (3, .int v3), (4, .int v4), (6, .int v6)] [.int s0, .int s1] σ := by
  unfold zq8_lots_113 at h
  refine zz_iadd K dX8_lots_113 ?_
  refine zz_nmi (fun x24 ex24 => ?_)
  have h := h x24 ex24
  refine zz_istore K [(5, .int x24), (0, .ref (ad 0)), (1, .int v1), (3, .int v3), (4, .int v4), (6, .int v6)] dX8_lots_114 (by decide) rfl ?_
  refine zz_iinc K 5 [(6, .int (v6 + (1 : Int32))), (5, .int x24), (0, .ref (ad 0)), (1, .int v1), (3, .int v3), (4, .int v4)] dX8_lots_116 zci_1 rfl (by decide) rfl ?_
  refine zz_goto K 69 dX8_lots_119 rfl ?_
  refine zz_sub [2, 3, 4, 5, 1, 0] [(0, .ref (ad 0)), (1, .int v1), (3, .int v3), (4, .int v4), (5, .int x24), (6, .int (v6 + (1 : Int32)))] rfl ?_
  exact hB69 v4 x24 (v6 + (1 : Int32)) σ h
set_option maxHeartbeats 4000000 in
set_option maxRecDepth 100000 in
theorem zu8_lots_69 {p : Program} {l : Launch} {e : Env} {s : State} {m : MethodId} {args : Array Value} {below : List Frame} {meth : Method} {c : Code} {Q : State → Prop} {D : va_G} {A : Nat → Prop} {ad : Nat → Nat} {cy : Nat → ClassId} {v1 : Int32} {v3 : Int32} {v4 : Int32} {v5 : Int32} {v6 : Int32} {σ : zz_St} (K : zz_K p s m args c cX8_lots 7 RX8 wsX8_lots D (tysM cy) A (wM ad cy) []) {Qp : Int32 → zz_St → Prop} (hret : ∀ (r : Int32) (σ2 : zz_St), narrow .int (.int r) = .int r → Qp r σ2 → ∀ (pc : Nat) (lv : List (Nat × Value)), decode cX8_lots pc = .ok (.ireturn, 1) → zz_G p l e zrm8_lots s m args below meth c Q D A (wM ad cy) 7 pc lv [.int r] σ2) (h : zq8_lots_69 v1 v3 v4 v5 v6 σ Qp) : zz_G p l e zrm8_lots s m args below meth c Q D A (wM ad cy) 7 69 [(0, .ref (ad 0)), (1, .int v1), (3, .int v3), (4, .int v4), (5, .int v5), (6, .int v6)] [] σ := by
  unfold zq8_lots_69 at h
  obtain ⟨I69, M69, h0, hs⟩ := h
  have key : ∀ (n : Nat) (v4 : Int32) (v5 : Int32) (v6 : Int32) (σ : zz_St), M69 v4 v5 v6 σ < n → I69 v4 v5 v6 σ → zz_G p l e zrm8_lots s m args below meth c Q D A (wM ad cy) 7 69 [(0, .ref (ad 0)), (1, .int v1), (3, .int v3), (4, .int v4), (5, .int v5), (6, .int v6)] [] σ := by
    intro n
    induction n with
    | zero => intro v4 v5 v6 σ hlt; exact absurd hlt (Nat.not_lt_zero _)
    | succ n ih =>
      intro v4 v5 v6 σ hlt hI
      have h := hs v4 v5 v6 σ hI
      have hB69 : ∀ (v4' : Int32) (v5' : Int32) (v6' : Int32) (σ' : zz_St), (fun v4' v5' v6' σ' => I69 v4' v5' v6' σ' ∧ M69 v4' v5' v6' σ' < M69 v4 v5 v6 σ) v4' v5' v6' σ' → zz_G p l e zrm8_lots s m args below meth c Q D A (wM ad cy) 7 69 [(0, .ref (ad 0)), (1, .int v1), (3, .int v3), (4, .int v4'), (5, .int v5'), (6, .int v6')] [] σ' := fun v4' v5' v6' σ' hz => ih v4' v5' v6' σ' (Nat.lt_of_lt_of_le hz.2 (Nat.le_of_lt_succ hlt)) hz.1
      refine zz_iload K 5 dX8_lots_69 rfl ?_
      refine zz_iload_n K 1 dX8_lots_71 rfl rfl ?_
      refine zz_icmp_ge K 122 dX8_lots_72 rfl (fun c25 => ?_) (fun c25 => ?_)
      · have h := (And.left h) c25
        refine zz_aload_n K 0 dX8_lots_122 rfl rfl ?_
        refine zg8_8 K zin_X8_lots_X8 zlk_X8_lots_5 dX8_lots_123 ?_
        refine zz_nmi (fun x26 ex26 => ?_)
        have h := h x26 ex26
        refine zz_istore K [(6, .int x26), (0, .ref (ad 0)), (1, .int v1), (3, .int v3), (4, .int v4), (5, .int v5)] dX8_lots_126 (by decide) rfl ?_
        refine zz_aload_n K 1 dX8_lots_128 rfl rfl ?_
        refine zz_callVv K zz_nw_nil [] (zc8_lays1 l D ad cy  σ _ h) gX8_lots_X8_lays1 rfl ⟨rfl, rfl⟩ zds_yX8_lays1_v ⟨Nat.le_of_ble_eq_true rfl, Nat.le_of_ble_eq_true rfl⟩ (wM_at_0 ad cy _) rfl rfl rfl rfl (Nat.le_of_ble_eq_true rfl) dX8_lots_129 (fun g27 h => ?_)
        refine zz_iload_n K 3 dX8_lots_132 rfl rfl ?_
        refine zz_if_ne K 141 dX8_lots_133 rfl (fun c28 => ?_) (fun c28 => ?_)
        · have h := (And.left h) c28
          refine zz_iload K 0 dX8_lots_141 rfl ?_
          exact hret _ _ rfl h _ _ dX8_lots_143
        · have h := (And.right h) c28
          refine zz_iload K 5 dX8_lots_136 rfl ?_
          refine zz_goto K 143 dX8_lots_138 rfl ?_
          exact hret _ _ rfl h _ _ dX8_lots_143
      · have h := (And.right h) c25
        refine zz_iload K 3 dX8_lots_75 rfl ?_
        refine zz_ldcw K zlk_X8_lots_2 dX8_lots_77 ?_
        refine zz_imul K dX8_lots_80 ?_
        refine zz_ldcw K zlk_X8_lots_3 dX8_lots_81 ?_
        refine zz_iadd K dX8_lots_84 ?_
        refine zz_nmi (fun x29 ex29 => ?_)
        have h := h x29 ex29
        refine zz_istore K [(4, .int x29), (0, .ref (ad 0)), (1, .int v1), (3, .int v3), (5, .int v5), (6, .int v6)] dX8_lots_85 (by decide) rfl ?_
        refine zz_iload K 4 dX8_lots_87 rfl ?_
        refine zz_aload_n K 1 dX8_lots_89 rfl rfl ?_
        refine zz_iload K 0 dX8_lots_90 rfl ?_
        refine zz_ldcw K zlk_X8_lots_4 dX8_lots_92 ?_
        refine zz_iand K dX8_lots_95 ?_
        refine zz_sipush K dX8_lots_96 zcs_256 ?_
        refine zz_idiv K (by decide : ¬ (256 : Int32) = 0) dX8_lots_99 ?_
        refine zz_iconst K dX8_lots_100 zci_4 ?_
        refine zz_irem K (by decide : ¬ (4 : Int32) = 0) dX8_lots_101 ?_
        refine zz_callVi K zz_nw_nil [.int (((x29 &&& (2147483647 : Int32)) / (256 : Int32)) - ((x29 &&& (2147483647 : Int32)) / (256 : Int32)) / (4 : Int32) * (4 : Int32))] (zc8_rolls l D ad cy (((x29 &&& (2147483647 : Int32)) / (256 : Int32)) - ((x29 &&& (2147483647 : Int32)) / (256 : Int32)) / (4 : Int32) * (4 : Int32)) σ _ h) gX8_lots_X8_rolls rfl ⟨rfl, rfl⟩ zds_yX8_rolls_v ⟨Nat.le_of_ble_eq_true rfl, Nat.le_of_ble_eq_true rfl⟩ (wM_at_0 ad cy _) rfl rfl rfl rfl (Nat.le_of_ble_eq_true rfl) dX8_lots_102 (fun r30 g31 h => ?_)
        refine zz_if_eq K 112 dX8_lots_105 rfl (fun c32 => ?_) (fun c32 => ?_)
        · have h := (And.left h) c32
          refine zz_iconst K dX8_lots_112 zci_0 ?_
          refine zz_sub [1, 2, 3, 0, 5] [(0, .ref (ad 0)), (1, .int v1), (3, .int v3), (4, .int x29), (6, .int v6)] rfl ?_
          exact zu8_lots_113 K hret hB69 h
        · have h := (And.right h) c32
          refine zz_iconst K dX8_lots_108 zci_1 ?_
          refine zz_goto K 113 dX8_lots_109 rfl ?_
          refine zz_sub [1, 2, 3, 0, 5] [(0, .ref (ad 0)), (1, .int v1), (3, .int v3), (4, .int x29), (6, .int v6)] rfl ?_
          exact zu8_lots_113 K hret hB69 h
  exact key _ v4 v5 v6 σ (Nat.lt_succ_self _) h0
set_option maxHeartbeats 4000000 in
set_option maxRecDepth 100000 in
theorem zu8_lots_0 {p : Program} {l : Launch} {e : Env} {s : State} {m : MethodId} {args : Array Value} {below : List Frame} {meth : Method} {c : Code} {Q : State → Prop} {D : va_G} {A : Nat → Prop} {ad : Nat → Nat} {cy : Nat → ClassId} {v1 : Int32} {v2 : Int32} {v3 : Int32} {σ : zz_St} (K : zz_K p s m args c cX8_lots 7 RX8 wsX8_lots D (tysM cy) A (wM ad cy) []) {Qp : Int32 → zz_St → Prop} (hret : ∀ (r : Int32) (σ2 : zz_St), narrow .int (.int r) = .int r → Qp r σ2 → ∀ (pc : Nat) (lv : List (Nat × Value)), decode cX8_lots pc = .ok (.ireturn, 1) → zz_G p l e zrm8_lots s m args below meth c Q D A (wM ad cy) 7 pc lv [.int r] σ2) (h : zq8_lots v1 v2 v3 σ Qp) : zz_G p l e zrm8_lots s m args below meth c Q D A (wM ad cy) 7 0 [(0, .ref (ad 0)), (1, .int v1), (2, .int v2), (3, .int v3)] [] σ := by
  unfold zq8_lots at h
  refine zz_iload_n K 1 dX8_lots_0 rfl rfl ?_
  refine zz_iconst K dX8_lots_1 zci_1 ?_
  refine zz_icmp_ge K 12 dX8_lots_2 rfl (fun c33 => ?_) (fun c33 => ?_)
  · have h := (And.left h) c33
    refine zz_iload_n K 1 dX8_lots_12 rfl rfl ?_
    refine zz_bipush K dX8_lots_13 zcb_50 ?_
    refine zz_icmp_le K 25 dX8_lots_15 rfl (fun c34 => ?_) (fun c34 => ?_)
    · have h := (And.left h) c34
      refine zz_iload_n K 3 dX8_lots_25 rfl rfl ?_
      refine zz_i2l K dX8_lots_26 ?_
      refine zz_lconst K (v := (0 : Int64)) dX8_lots_27 rfl ?_
      refine zz_lconst K (v := (1 : Int64)) dX8_lots_28 rfl ?_
      refine zz_callSi1 K zz_nw_nil [.long (v3.toInt64), .long (0 : Int64), .long (1 : Int64)] (zc8_in l D ad cy (v3.toInt64) (0 : Int64) (1 : Int64) σ _ h) gX8_lots_X8_in rfl ⟨rfl, rfl⟩ zds_yX8_in_s ⟨Nat.le_of_ble_eq_true rfl, Nat.le_of_ble_eq_true rfl⟩ rfl rfl (Nat.le_of_ble_eq_true rfl) dX8_lots_29 (fun r35 h => ?_)
      refine zz_if_ne K 42 dX8_lots_32 rfl (fun c36 => ?_) (fun c36 => ?_)
      · have h := (And.left h) c36
        refine zz_aload_n K 0 dX8_lots_42 rfl rfl ?_
        refine zg8_9 K zin_X8_lots_X8 zlk_X8_lots_1 dX8_lots_43 ?_
        refine zz_if_ne K 56 dX8_lots_46 rfl (fun c37 => ?_) (fun c37 => ?_)
        · have h := (And.left h) c37
          refine zz_aload_n K 0 dX8_lots_56 rfl rfl ?_
          refine zz_callVv K zz_nw_nil [] (zc8_keeps1 l D ad cy  σ _ h) gX8_lots_X8_keeps1 rfl ⟨rfl, rfl⟩ zds_yX8_keeps1_v ⟨Nat.le_of_ble_eq_true rfl, Nat.le_of_ble_eq_true rfl⟩ (wM_at_0 ad cy _) rfl rfl rfl rfl (Nat.le_of_ble_eq_true rfl) dX8_lots_57 (fun g38 h => ?_)
          refine zz_iload_n K 2 dX8_lots_60 rfl rfl ?_
          refine zz_istore K [(4, .int v2), (0, .ref (ad 0)), (1, .int v1), (2, .int v2), (3, .int v3)] dX8_lots_61 (by decide) rfl ?_
          refine zz_iconst K dX8_lots_63 zci_0 ?_
          refine zz_istore K [(5, .int (0 : Int32)), (4, .int v2), (0, .ref (ad 0)), (1, .int v1), (2, .int v2), (3, .int v3)] dX8_lots_64 (by decide) rfl ?_
          refine zz_iconst K dX8_lots_66 zci_0 ?_
          refine zz_istore K [(6, .int (0 : Int32)), (5, .int (0 : Int32)), (4, .int v2), (0, .ref (ad 0)), (1, .int v1), (2, .int v2), (3, .int v3)] dX8_lots_67 (by decide) rfl ?_
          refine zz_sub [3, 4, 6, 2, 1, 0] [(0, .ref (ad 0)), (1, .int v1), (3, .int v3), (4, .int v2), (5, .int (0 : Int32)), (6, .int (0 : Int32))] rfl ?_
          exact zu8_lots_69 K hret h
        · have h := (And.right h) c37
          refine zz_aload_n K 0 dX8_lots_49 rfl rfl ?_
          refine zz_bipush K dX8_lots_50 zcb_m3 ?_
          refine zz_callVi K zz_nw_nil [.int (-3 : Int32)] (zc8_no l D ad cy (-3 : Int32) σ _ h) gX8_lots_X8_no rfl ⟨rfl, rfl⟩ zds_yX8_no_v ⟨Nat.le_of_ble_eq_true rfl, Nat.le_of_ble_eq_true rfl⟩ (wM_at_0 ad cy _) rfl rfl rfl rfl (Nat.le_of_ble_eq_true rfl) dX8_lots_52 (fun r39 g40 h => ?_)
          exact hret _ _ rfl h _ _ dX8_lots_55
      · have h := (And.right h) c36
        refine zz_aload_n K 0 dX8_lots_35 rfl rfl ?_
        refine zz_bipush K dX8_lots_36 zcb_m2 ?_
        refine zz_callVi K zz_nw_nil [.int (-2 : Int32)] (zc8_no l D ad cy (-2 : Int32) σ _ h) gX8_lots_X8_no rfl ⟨rfl, rfl⟩ zds_yX8_no_v ⟨Nat.le_of_ble_eq_true rfl, Nat.le_of_ble_eq_true rfl⟩ (wM_at_0 ad cy _) rfl rfl rfl rfl (Nat.le_of_ble_eq_true rfl) dX8_lots_38 (fun r41 g42 h => ?_)
        exact hret _ _ rfl h _ _ dX8_lots_41
    · have h := (And.right h) c34
      refine zz_aload_n K 0 dX8_lots_18 rfl rfl ?_
      refine zz_bipush K dX8_lots_19 zcb_m6 ?_
      refine zz_callVi K zz_nw_nil [.int (-6 : Int32)] (zc8_no l D ad cy (-6 : Int32) σ _ h) gX8_lots_X8_no rfl ⟨rfl, rfl⟩ zds_yX8_no_v ⟨Nat.le_of_ble_eq_true rfl, Nat.le_of_ble_eq_true rfl⟩ (wM_at_0 ad cy _) rfl rfl rfl rfl (Nat.le_of_ble_eq_true rfl) dX8_lots_21 (fun r43 g44 h => ?_)
      exact hret _ _ rfl h _ _ dX8_lots_24
  · have h := (And.right h) c33
    refine zz_aload_n K 0 dX8_lots_5 rfl rfl ?_
    refine zz_bipush K dX8_lots_6 zcb_m4 ?_
    refine zz_callVi K zz_nw_nil [.int (-4 : Int32)] (zc8_no l D ad cy (-4 : Int32) σ _ h) gX8_lots_X8_no rfl ⟨rfl, rfl⟩ zds_yX8_no_v ⟨Nat.le_of_ble_eq_true rfl, Nat.le_of_ble_eq_true rfl⟩ (wM_at_0 ad cy _) rfl rfl rfl rfl (Nat.le_of_ble_eq_true rfl) dX8_lots_8 (fun r45 g46 h => ?_)
    exact hret _ _ rfl h _ _ dX8_lots_11
set_option maxRecDepth 100000 in
theorem zc8_lots (l : Launch) (D : va_G) (ad : Nat → Nat) (cy : Nat → ClassId) (v1 : Int32) (v2 : Int32) (v3 : Int32) (σ : zz_St) (Qp : Int32 → zz_St → Prop) (h : zq8_lots v1 v2 v3 σ Qp) : zz_Mi l yX8_lots wsX8_lots zrm8_lots D (tysM cy) (wM ad cy) [] [.ref (ad 0), .int v1, .int v2, .int v3] σ Qp :=
  zz_Mi.of zz_nw_nil (wM_ad ad cy) (by decide +kernel) rfl ⟨rfl, rfl⟩ (Nat.le_of_ble_eq_true rfl) (fun p e s m args below meth c A QW K hret => zu8_lots_0 K  hret h)
theorem zlk_X8_isList_1 : Cond.constantLong RX8 204 (2) ∈ wsX8_isList := List.mem_of_getElem? (i := 1) rfl
abbrev zrm8_isList : Room := { frames := 1, cells := 0, slots := 0, locals := 25 }
set_option maxHeartbeats 4000000 in
set_option maxRecDepth 100000 in
theorem zu8_isList_0 {p : Program} {l : Launch} {e : Env} {s : State} {m : MethodId} {args : Array Value} {below : List Frame} {meth : Method} {c : Code} {Q : State → Prop} {D : va_G} {A : Nat → Prop} {ad : Nat → Nat} {cy : Nat → ClassId} {v0 : Int32} {σ : zz_St} (K : zz_K p s m args c cX8_isList 1 RX8 wsX8_isList D (tysM cy) A (wM ad cy) []) {Qp : Int32 → Prop} (hret : ∀ (r : Int32), narrow .boolean (.int r) = .int r → Qp r → ∀ (pc : Nat) (lv : List (Nat × Value)), decode cX8_isList pc = .ok (.ireturn, 1) → zz_G p l e zrm8_isList s m args below meth c Q D A (wM ad cy) 1 pc lv [.int r] σ) (h : zq8_isList v0 Qp) : zz_G p l e zrm8_isList s m args below meth c Q D A (wM ad cy) 1 0 [(0, .int v0)] [] σ := by
  unfold zq8_isList at h
  refine zz_iload_n K 0 dX8_isList_0 rfl rfl ?_
  refine zz_i2l K dX8_isList_1 ?_
  refine zz_lconst K (v := (0 : Int64)) dX8_isList_2 rfl ?_
  refine zz_ldc2 K zlk_X8_isList_1 dX8_isList_3 ?_
  refine zz_callSi1 K zz_nw_nil [.long (v0.toInt64), .long (0 : Int64), .long (2 : Int64)] (zc8_in l D ad cy (v0.toInt64) (0 : Int64) (2 : Int64) σ _ h) gX8_isList_X8_in rfl ⟨rfl, rfl⟩ zds_yX8_in_s ⟨Nat.le_of_ble_eq_true rfl, Nat.le_of_ble_eq_true rfl⟩ rfl rfl (Nat.le_of_ble_eq_true rfl) dX8_isList_6 (fun r2 h => ?_)
  obtain ⟨hnb, h⟩ := h
  exact hret _ (zz_nb hnb) h _ _ dX8_isList_9
set_option maxRecDepth 100000 in
theorem zc8_isList (l : Launch) (D : va_G) (ad : Nat → Nat) (cy : Nat → ClassId) (v0 : Int32) (σ : zz_St) (Qp : Int32 → Prop) (h : zq8_isList v0 Qp) : zz_Mi l yX8_isList wsX8_isList zrm8_isList D (tysM cy) (wM ad cy) [] [.int v0] σ (fun r σ2 => σ2 = σ ∧ Qp r) :=
  zz_Mi.of zz_nw_nil (wM_ad ad cy) (by decide +kernel) rfl ⟨rfl, rfl⟩ (Nat.le_of_ble_eq_true rfl) (fun p e s m args below meth c A QW K hret => zu8_isList_0 K  (fun r hn hq pc lv hd => hret r σ hn ⟨rfl, hq⟩ pc lv hd) h)
theorem zcb_40 : (Int8.ofInt (40)).toInt32 = (40 : Int32) := by decide
theorem zin_X8_list_X8 : ∀ w ∈ wsX80, w ∈ wsX8_list := fun w h => List.mem_cons_of_mem _ (List.mem_append_right _ h)
theorem zlk_X8_list_1 : Cond.fieldLink RX8 95 "SolidsRolledModel" "listSizes" "[I" ∈ wsX8_list := List.mem_of_getElem? (i := 1) rfl
theorem zcb_m14 : (Int8.ofInt (-14)).toInt32 = (-14 : Int32) := by decide
theorem zlk_X8_list_2 : Cond.fieldLink RX8 98 "SolidsRolledModel" "items" "[I" ∈ wsX8_list := List.mem_of_getElem? (i := 2) rfl
theorem zds_yX8_isList_s : yX8_isList.cls ≠ "java/lang/invoke/MethodHandle" ∧ yX8_isList.cls ≠ "java/lang/invoke/VarHandle" ∧ (parseMethodDescriptor yX8_isList.desc).map (fun d => d.parameters.length) = some 1 := by decide +kernel
abbrev zrm8_list : Room := { frames := 2, cells := 0, slots := 0, locals := 45 }
set_option maxHeartbeats 4000000 in
set_option maxRecDepth 100000 in
theorem zu8_list_42 {p : Program} {l : Launch} {e : Env} {s : State} {m : MethodId} {args : Array Value} {below : List Frame} {meth : Method} {c : Code} {Q : State → Prop} {D : va_G} {A : Nat → Prop} {ad : Nat → Nat} {cy : Nat → ClassId} {v1 : Int32} {v3 : Int32} {σ : zz_St} (K : zz_K p s m args c cX8_list 4 RX8 wsX8_list D (tysM cy) A (wM ad cy) []) {Qp : Int32 → zz_St → Prop} (hret : ∀ (r : Int32) (σ2 : zz_St), narrow .int (.int r) = .int r → Qp r σ2 → ∀ (pc : Nat) (lv : List (Nat × Value)), decode cX8_list pc = .ok (.ireturn, 1) → zz_G p l e zrm8_list s m args below meth c Q D A (wM ad cy) 4 pc lv [.int r] σ2) (h : zq8_list_42 v1 v3 σ Qp) : zz_G p l e zrm8_list s m args below meth c Q D A (wM ad cy) 4 42 [(0, .ref (ad 0)), (1, .int v1), (3, .int v3)] [] σ := by
  unfold zq8_list_42 at h
  obtain ⟨I42, M42, h0, hs⟩ := h
  have key : ∀ (n : Nat) (v3 : Int32) (σ : zz_St), M42 v3 σ < n → I42 v3 σ → zz_G p l e zrm8_list s m args below meth c Q D A (wM ad cy) 4 42 [(0, .ref (ad 0)), (1, .int v1), (3, .int v3)] [] σ := by
    intro n
    induction n with
    | zero => intro v3 σ hlt; exact absurd hlt (Nat.not_lt_zero _)
    | succ n ih =>
      intro v3 σ hlt hI
      have h := hs v3 σ hI
      have hB42 : ∀ (v3' : Int32) (σ' : zz_St), (fun v3' σ' => I42 v3' σ' ∧ M42 v3' σ' < M42 v3 σ) v3' σ' → zz_G p l e zrm8_list s m args below meth c Q D A (wM ad cy) 4 42 [(0, .ref (ad 0)), (1, .int v1), (3, .int v3')] [] σ' := fun v3' σ' hz => ih v3' σ' (Nat.lt_of_lt_of_le hz.2 (Nat.le_of_lt_succ hlt)) hz.1
      refine zz_iload_n K 2 dX8_list_42 rfl rfl ?_
      refine zz_bipush K dX8_list_43 zcb_40 ?_
      refine zz_icmp_ge K 66 dX8_list_45 rfl (fun c12 => ?_) (fun c12 => ?_)
      · have h := (And.left h) c12
        refine zz_iconst K dX8_list_66 zci_1 ?_
        exact hret _ _ rfl h _ _ dX8_list_67
      · have h := (And.right h) c12
        refine zz_aload_n K 0 dX8_list_48 rfl rfl ?_
        refine zg8_37 K zin_X8_list_X8 zlk_X8_list_2 dX8_list_49 ?_
        refine zz_bipush K dX8_list_52 zcb_40 ?_
        refine zz_iload_n K 1 dX8_list_54 rfl rfl ?_
        refine zz_imul K dX8_list_55 ?_
        refine zz_iload_n K 2 dX8_list_56 rfl rfl ?_
        refine zz_iadd K dX8_list_57 ?_
        refine zz_iconst K dX8_list_58 zci_0 ?_
        obtain ⟨hin, h⟩ := h
        refine zz_iastore K 0 (σ2 := zz_A σ 37 (upd ((σ).2.1 37) (((40 : Int32) * v1) + v3).toNatClampNeg (0 : Int32))) (wM_at_37 ad cy σ) (wM_set_37 ad cy σ _) rfl hin dX8_list_59 ?_
        refine zz_nms (fun g13 eg13 => ?_)
        have h := h g13 eg13
        refine zz_iinc K 2 [(3, .int (v3 + (1 : Int32))), (0, .ref (ad 0)), (1, .int v1)] dX8_list_60 zci_1 rfl (by decide) rfl ?_
        refine zz_goto K 42 dX8_list_63 rfl ?_
        refine zz_sub [1, 2, 0] [(0, .ref (ad 0)), (1, .int v1), (3, .int (v3 + (1 : Int32)))] rfl ?_
        exact hB42 (v3 + (1 : Int32)) g13 h
  exact key _ v3 σ (Nat.lt_succ_self _) h0
set_option maxHeartbeats 4000000 in
set_option maxRecDepth 100000 in
theorem zu8_list_0 {p : Program} {l : Launch} {e : Env} {s : State} {m : MethodId} {args : Array Value} {below : List Frame} {meth : Method} {c : Code} {Q : State → Prop} {D : va_G} {A : Nat → Prop} {ad : Nat → Nat} {cy : Nat → ClassId} {v1 : Int32} {v2 : Int32} {σ : zz_St} (K : zz_K p s m args c cX8_list 4 RX8 wsX8_list D (tysM cy) A (wM ad cy) []) {Qp : Int32 → zz_St → Prop} (hret : ∀ (r : Int32) (σ2 : zz_St), narrow .int (.int r) = .int r → Qp r σ2 → ∀ (pc : Nat) (lv : List (Nat × Value)), decode cX8_list pc = .ok (.ireturn, 1) → zz_G p l e zrm8_list s m args below meth c Q D A (wM ad cy) 4 pc lv [.int r] σ2) (h : zq8_list v1 v2 σ Qp) : zz_G p l e zrm8_list s m args below meth c Q D A (wM ad cy) 4 0 [(0, .ref (ad 0)), (1, .int v1), (2, .int v2)] [] σ := by
  unfold zq8_list at h
  refine zz_iload_n K 1 dX8_list_0 rfl rfl ?_
  refine zz_callSi1 K zz_nw_nil [.int v1] (zc8_isList l D ad cy v1 σ _ h) gX8_list_X8_isList rfl ⟨rfl, rfl⟩ zds_yX8_isList_s ⟨Nat.le_of_ble_eq_true rfl, Nat.le_of_ble_eq_true rfl⟩ rfl rfl (Nat.le_of_ble_eq_true rfl) dX8_list_1 (fun r14 h => ?_)
  refine zz_if_ne K 13 dX8_list_4 rfl (fun c15 => ?_) (fun c15 => ?_)
  · have h := (And.left h) c15
    refine zz_iload_n K 2 dX8_list_13 rfl rfl ?_
    refine zz_bipush K dX8_list_14 zcb_40 ?_
    refine zz_icmp_le K 26 dX8_list_16 rfl (fun c16 => ?_) (fun c16 => ?_)
    · have h := (And.left h) c16
      refine zz_iload_n K 2 dX8_list_26 rfl rfl ?_
      refine zz_if_ge K 33 dX8_list_27 rfl (fun c17 => ?_) (fun c17 => ?_)
      · have h := (And.left h) c17
        refine zz_aload_n K 0 dX8_list_33 rfl rfl ?_
        refine zg8_36 K zin_X8_list_X8 zlk_X8_list_1 dX8_list_34 ?_
        refine zz_iload_n K 1 dX8_list_37 rfl rfl ?_
        refine zz_iload_n K 2 dX8_list_38 rfl rfl ?_
        obtain ⟨hin, h⟩ := h
        refine zz_iastore K 0 (σ2 := zz_A σ 36 (upd ((σ).2.1 36) v1.toNatClampNeg v2)) (wM_at_36 ad cy σ) (wM_set_36 ad cy σ _) rfl hin dX8_list_39 ?_
        refine zz_nms (fun g18 eg18 => ?_)
        have h := h g18 eg18
        refine zz_iconst K dX8_list_40 zci_0 ?_
        refine zz_istore_n K [(3, .int (0 : Int32)), (0, .ref (ad 0)), (1, .int v1), (2, .int v2)] dX8_list_41 rfl (by decide) rfl ?_
        refine zz_sub [1, 2, 0] [(0, .ref (ad 0)), (1, .int v1), (3, .int (0 : Int32))] rfl ?_
        exact zu8_list_42 K hret h
      · have h := (And.right h) c17
        refine zz_bipush K dX8_list_30 zcb_m14 ?_
        exact hret _ _ rfl h _ _ dX8_list_32
    · have h := (And.right h) c16
      refine zz_aload_n K 0 dX8_list_19 rfl rfl ?_
      refine zz_bipush K dX8_list_20 zcb_m6 ?_
      refine zz_callVi K zz_nw_nil [.int (-6 : Int32)] (zc8_no l D ad cy (-6 : Int32) σ _ h) gX8_list_X8_no rfl ⟨rfl, rfl⟩ zds_yX8_no_v ⟨Nat.le_of_ble_eq_true rfl, Nat.le_of_ble_eq_true rfl⟩ (wM_at_0 ad cy _) rfl rfl rfl rfl (Nat.le_of_ble_eq_true rfl) dX8_list_22 (fun r19 g20 h => ?_)
      exact hret _ _ rfl h _ _ dX8_list_25
  · have h := (And.right h) c15
    refine zz_aload_n K 0 dX8_list_7 rfl rfl ?_
    refine zz_iconst K dX8_list_8 zci_m1 ?_
    refine zz_callVi K zz_nw_nil [.int (-1 : Int32)] (zc8_no l D ad cy (-1 : Int32) σ _ h) gX8_list_X8_no rfl ⟨rfl, rfl⟩ zds_yX8_no_v ⟨Nat.le_of_ble_eq_true rfl, Nat.le_of_ble_eq_true rfl⟩ (wM_at_0 ad cy _) rfl rfl rfl rfl (Nat.le_of_ble_eq_true rfl) dX8_list_9 (fun r21 g22 h => ?_)
    exact hret _ _ rfl h _ _ dX8_list_12
set_option maxRecDepth 100000 in
theorem zc8_list (l : Launch) (D : va_G) (ad : Nat → Nat) (cy : Nat → ClassId) (v1 : Int32) (v2 : Int32) (σ : zz_St) (Qp : Int32 → zz_St → Prop) (h : zq8_list v1 v2 σ Qp) : zz_Mi l yX8_list wsX8_list zrm8_list D (tysM cy) (wM ad cy) [] [.ref (ad 0), .int v1, .int v2] σ Qp :=
  zz_Mi.of zz_nw_nil (wM_ad ad cy) (by decide +kernel) rfl ⟨rfl, rfl⟩ (Nat.le_of_ble_eq_true rfl) (fun p e s m args below meth c A QW K hret => zu8_list_0 K  hret h)
theorem zin_X8_put_X8 : ∀ w ∈ wsX80, w ∈ wsX8_put := fun w h => List.mem_cons_of_mem _ (List.mem_append_right _ h)
theorem zlk_X8_put_1 : Cond.fieldLink RX8 95 "SolidsRolledModel" "listSizes" "[I" ∈ wsX8_put := List.mem_of_getElem? (i := 1) rfl
theorem zlk_X8_put_2 : Cond.fieldLink RX8 98 "SolidsRolledModel" "items" "[I" ∈ wsX8_put := List.mem_of_getElem? (i := 2) rfl
theorem zcb_m13 : (Int8.ofInt (-13)).toInt32 = (-13 : Int32) := by decide
theorem zcb_m11 : (Int8.ofInt (-11)).toInt32 = (-11 : Int32) := by decide
abbrev zrm8_put : Room := { frames := 2, cells := 0, slots := 0, locals := 45 }
set_option maxHeartbeats 4000000 in
set_option maxRecDepth 100000 in
theorem zu8_put_0 {p : Program} {l : Launch} {e : Env} {s : State} {m : MethodId} {args : Array Value} {below : List Frame} {meth : Method} {c : Code} {Q : State → Prop} {D : va_G} {A : Nat → Prop} {ad : Nat → Nat} {cy : Nat → ClassId} {v1 : Int32} {v2 : Int32} {v3 : Int32} {σ : zz_St} (K : zz_K p s m args c cX8_put 4 RX8 wsX8_put D (tysM cy) A (wM ad cy) []) {Qp : Int32 → zz_St → Prop} (hret : ∀ (r : Int32) (σ2 : zz_St), narrow .int (.int r) = .int r → Qp r σ2 → ∀ (pc : Nat) (lv : List (Nat × Value)), decode cX8_put pc = .ok (.ireturn, 1) → zz_G p l e zrm8_put s m args below meth c Q D A (wM ad cy) 4 pc lv [.int r] σ2) (h : zq8_put v1 v2 v3 σ Qp) : zz_G p l e zrm8_put s m args below meth c Q D A (wM ad cy) 4 0 [(0, .ref (ad 0)), (1, .int v1), (2, .int v2), (3, .int v3)] [] σ := by
  unfold zq8_put at h
  refine zz_iload_n K 1 dX8_put_0 rfl rfl ?_
  refine zz_callSi1 K zz_nw_nil [.int v1] (zc8_isList l D ad cy v1 σ _ h) gX8_put_X8_isList rfl ⟨rfl, rfl⟩ zds_yX8_isList_s ⟨Nat.le_of_ble_eq_true rfl, Nat.le_of_ble_eq_true rfl⟩ rfl rfl (Nat.le_of_ble_eq_true rfl) dX8_put_1 (fun r9 h => ?_)
  refine zz_if_ne K 13 dX8_put_4 rfl (fun c10 => ?_) (fun c10 => ?_)
  · have h := (And.left h) c10
    refine zz_aload_n K 0 dX8_put_13 rfl rfl ?_
    refine zg8_36 K zin_X8_put_X8 zlk_X8_put_1 dX8_put_14 ?_
    refine zz_iload_n K 1 dX8_put_17 rfl rfl ?_
    obtain ⟨hin, h⟩ := h
    refine zz_iaload K 0 (wM_at_36 ad cy σ) rfl hin dX8_put_18 ?_
    refine zz_if_ge K 25 dX8_put_19 rfl (fun c11 => ?_) (fun c11 => ?_)
    · have h := (And.left h) c11
      refine zz_iload_n K 2 dX8_put_25 rfl rfl ?_
      refine zz_i2l K dX8_put_26 ?_
      refine zz_lconst K (v := (0 : Int64)) dX8_put_27 rfl ?_
      refine zz_aload_n K 0 dX8_put_28 rfl rfl ?_
      refine zg8_36 K zin_X8_put_X8 zlk_X8_put_1 dX8_put_29 ?_
      refine zz_iload_n K 1 dX8_put_32 rfl rfl ?_
      obtain ⟨hin, h⟩ := h
      refine zz_iaload K 0 (wM_at_36 ad cy σ) rfl hin dX8_put_33 ?_
      refine zz_iconst K dX8_put_34 zci_1 ?_
      refine zz_isub K dX8_put_35 ?_
      refine zz_i2l K dX8_put_36 ?_
      refine zz_callSi1 K zz_nw_nil [.long (v2.toInt64), .long (0 : Int64), .long ((((σ).2.1 36 v1.toNatClampNeg) - (1 : Int32)).toInt64)] (zc8_in l D ad cy (v2.toInt64) (0 : Int64) ((((σ).2.1 36 v1.toNatClampNeg) - (1 : Int32)).toInt64) σ _ h) gX8_put_X8_in rfl ⟨rfl, rfl⟩ zds_yX8_in_s ⟨Nat.le_of_ble_eq_true rfl, Nat.le_of_ble_eq_true rfl⟩ rfl rfl (Nat.le_of_ble_eq_true rfl) dX8_put_37 (fun r12 h => ?_)
      refine zz_if_ne K 46 dX8_put_40 rfl (fun c13 => ?_) (fun c13 => ?_)
      · have h := (And.left h) c13
        refine zz_aload_n K 0 dX8_put_46 rfl rfl ?_
        refine zg8_37 K zin_X8_put_X8 zlk_X8_put_2 dX8_put_47 ?_
        refine zz_bipush K dX8_put_50 zcb_40 ?_
        refine zz_iload_n K 1 dX8_put_52 rfl rfl ?_
        refine zz_imul K dX8_put_53 ?_
        refine zz_iload_n K 2 dX8_put_54 rfl rfl ?_
        refine zz_iadd K dX8_put_55 ?_
        refine zz_iload_n K 3 dX8_put_56 rfl rfl ?_
        obtain ⟨hin, h⟩ := h
        refine zz_iastore K 0 (σ2 := zz_A σ 37 (upd ((σ).2.1 37) (((40 : Int32) * v1) + v2).toNatClampNeg v3)) (wM_at_37 ad cy σ) (wM_set_37 ad cy σ _) rfl hin dX8_put_57 ?_
        refine zz_nms (fun g14 eg14 => ?_)
        have h := h g14 eg14
        refine zz_iconst K dX8_put_58 zci_1 ?_
        exact hret _ _ rfl h _ _ dX8_put_59
      · have h := (And.right h) c13
        refine zz_bipush K dX8_put_43 zcb_m13 ?_
        exact hret _ _ rfl h _ _ dX8_put_45
    · have h := (And.right h) c11
      refine zz_bipush K dX8_put_22 zcb_m11 ?_
      exact hret _ _ rfl h _ _ dX8_put_24
  · have h := (And.right h) c10
    refine zz_aload_n K 0 dX8_put_7 rfl rfl ?_
    refine zz_iconst K dX8_put_8 zci_m1 ?_
    refine zz_callVi K zz_nw_nil [.int (-1 : Int32)] (zc8_no l D ad cy (-1 : Int32) σ _ h) gX8_put_X8_no rfl ⟨rfl, rfl⟩ zds_yX8_no_v ⟨Nat.le_of_ble_eq_true rfl, Nat.le_of_ble_eq_true rfl⟩ (wM_at_0 ad cy _) rfl rfl rfl rfl (Nat.le_of_ble_eq_true rfl) dX8_put_9 (fun r15 g16 h => ?_)
    exact hret _ _ rfl h _ _ dX8_put_12
set_option maxRecDepth 100000 in
theorem zc8_put (l : Launch) (D : va_G) (ad : Nat → Nat) (cy : Nat → ClassId) (v1 : Int32) (v2 : Int32) (v3 : Int32) (σ : zz_St) (Qp : Int32 → zz_St → Prop) (h : zq8_put v1 v2 v3 σ Qp) : zz_Mi l yX8_put wsX8_put zrm8_put D (tysM cy) (wM ad cy) [] [.ref (ad 0), .int v1, .int v2, .int v3] σ Qp :=
  zz_Mi.of zz_nw_nil (wM_ad ad cy) (by decide +kernel) rfl ⟨rfl, rfl⟩ (Nat.le_of_ble_eq_true rfl) (fun p e s m args below meth c A QW K hret => zu8_put_0 K  hret h)
theorem zin_X8_look_X8 : ∀ w ∈ wsX80, w ∈ wsX8_look := fun w h => List.mem_cons_of_mem _ (List.mem_append_right _ h)
theorem zlk_X8_look_1 : Cond.fieldLink RX8 95 "SolidsRolledModel" "listSizes" "[I" ∈ wsX8_look := List.mem_of_getElem? (i := 1) rfl
theorem zlk_X8_look_2 : Cond.fieldLink RX8 98 "SolidsRolledModel" "items" "[I" ∈ wsX8_look := List.mem_of_getElem? (i := 2) rfl
abbrev zrm8_look : Room := { frames := 2, cells := 0, slots := 0, locals := 45 }
set_option maxHeartbeats 4000000 in
set_option maxRecDepth 100000 in
theorem zu8_look_0 {p : Program} {l : Launch} {e : Env} {s : State} {m : MethodId} {args : Array Value} {below : List Frame} {meth : Method} {c : Code} {Q : State → Prop} {D : va_G} {A : Nat → Prop} {ad : Nat → Nat} {cy : Nat → ClassId} {v1 : Int32} {v2 : Int32} {σ : zz_St} (K : zz_K p s m args c cX8_look 3 RX8 wsX8_look D (tysM cy) A (wM ad cy) []) {Qp : Int64 → zz_St → Prop} (hret : ∀ (r : Int64) (σ2 : zz_St), Qp r σ2 → ∀ (pc : Nat) (lv : List (Nat × Value)), decode cX8_look pc = .ok (.lreturn, 1) → zz_G p l e zrm8_look s m args below meth c Q D A (wM ad cy) 3 pc lv [.long r] σ2) (h : zq8_look v1 v2 σ Qp) : zz_G p l e zrm8_look s m args below meth c Q D A (wM ad cy) 3 0 [(0, .ref (ad 0)), (1, .int v1), (2, .int v2)] [] σ := by
  unfold zq8_look at h
  refine zz_iload_n K 1 dX8_look_0 rfl rfl ?_
  refine zz_callSi1 K zz_nw_nil [.int v1] (zc8_isList l D ad cy v1 σ _ h) gX8_look_X8_isList rfl ⟨rfl, rfl⟩ zds_yX8_isList_s ⟨Nat.le_of_ble_eq_true rfl, Nat.le_of_ble_eq_true rfl⟩ rfl rfl (Nat.le_of_ble_eq_true rfl) dX8_look_1 (fun r12 h => ?_)
  refine zz_if_ne K 13 dX8_look_4 rfl (fun c13 => ?_) (fun c13 => ?_)
  · have h := (And.left h) c13
    refine zz_aload_n K 0 dX8_look_13 rfl rfl ?_
    refine zg8_36 K zin_X8_look_X8 zlk_X8_look_1 dX8_look_14 ?_
    refine zz_iload_n K 1 dX8_look_17 rfl rfl ?_
    obtain ⟨hin, h⟩ := h
    refine zz_iaload K 0 (wM_at_36 ad cy σ) rfl hin dX8_look_18 ?_
    refine zz_if_ge K 29 dX8_look_19 rfl (fun c14 => ?_) (fun c14 => ?_)
    · have h := (And.left h) c14
      refine zz_iload_n K 2 dX8_look_29 rfl rfl ?_
      refine zz_i2l K dX8_look_30 ?_
      refine zz_lconst K (v := (0 : Int64)) dX8_look_31 rfl ?_
      refine zz_aload_n K 0 dX8_look_32 rfl rfl ?_
      refine zg8_36 K zin_X8_look_X8 zlk_X8_look_1 dX8_look_33 ?_
      refine zz_iload_n K 1 dX8_look_36 rfl rfl ?_
      obtain ⟨hin, h⟩ := h
      refine zz_iaload K 0 (wM_at_36 ad cy σ) rfl hin dX8_look_37 ?_
      refine zz_iconst K dX8_look_38 zci_1 ?_
      refine zz_isub K dX8_look_39 ?_
      refine zz_i2l K dX8_look_40 ?_
      refine zz_callSi1 K zz_nw_nil [.long (v2.toInt64), .long (0 : Int64), .long ((((σ).2.1 36 v1.toNatClampNeg) - (1 : Int32)).toInt64)] (zc8_in l D ad cy (v2.toInt64) (0 : Int64) ((((σ).2.1 36 v1.toNatClampNeg) - (1 : Int32)).toInt64) σ _ h) gX8_look_X8_in rfl ⟨rfl, rfl⟩ zds_yX8_in_s ⟨Nat.le_of_ble_eq_true rfl, Nat.le_of_ble_eq_true rfl⟩ rfl rfl (Nat.le_of_ble_eq_true rfl) dX8_look_41 (fun r15 h => ?_)
      refine zz_if_eq K 62 dX8_look_44 rfl (fun c16 => ?_) (fun c16 => ?_)
      · have h := (And.left h) c16
        refine zz_aload_n K 0 dX8_look_62 rfl rfl ?_
        refine zz_bipush K dX8_look_63 zcb_m13 ?_
        refine zz_callVl K zz_nw_nil [.int (-13 : Int32)] (zc8_longNo l D ad cy (-13 : Int32) σ _ h) gX8_look_X8_longNo rfl ⟨rfl, rfl⟩ zds_yX8_longNo_v ⟨Nat.le_of_ble_eq_true rfl, Nat.le_of_ble_eq_true rfl⟩ (wM_at_0 ad cy _) rfl rfl rfl rfl (Nat.le_of_ble_eq_true rfl) dX8_look_65 (fun r17 g18 h => ?_)
        exact hret _ _ h _ _ dX8_look_68
      · have h := (And.right h) c16
        refine zz_aload_n K 0 dX8_look_47 rfl rfl ?_
        refine zg8_37 K zin_X8_look_X8 zlk_X8_look_2 dX8_look_48 ?_
        refine zz_bipush K dX8_look_51 zcb_40 ?_
        refine zz_iload_n K 1 dX8_look_53 rfl rfl ?_
        refine zz_imul K dX8_look_54 ?_
        refine zz_iload_n K 2 dX8_look_55 rfl rfl ?_
        refine zz_iadd K dX8_look_56 ?_
        obtain ⟨hin, h⟩ := h
        refine zz_iaload K 0 (wM_at_37 ad cy σ) rfl hin dX8_look_57 ?_
        refine zz_i2l K dX8_look_58 ?_
        refine zz_goto K 68 dX8_look_59 rfl ?_
        exact hret _ _ h _ _ dX8_look_68
    · have h := (And.right h) c14
      refine zz_aload_n K 0 dX8_look_22 rfl rfl ?_
      refine zz_bipush K dX8_look_23 zcb_m11 ?_
      refine zz_callVl K zz_nw_nil [.int (-11 : Int32)] (zc8_longNo l D ad cy (-11 : Int32) σ _ h) gX8_look_X8_longNo rfl ⟨rfl, rfl⟩ zds_yX8_longNo_v ⟨Nat.le_of_ble_eq_true rfl, Nat.le_of_ble_eq_true rfl⟩ (wM_at_0 ad cy _) rfl rfl rfl rfl (Nat.le_of_ble_eq_true rfl) dX8_look_25 (fun r19 g20 h => ?_)
      exact hret _ _ h _ _ dX8_look_28
  · have h := (And.right h) c13
    refine zz_aload_n K 0 dX8_look_7 rfl rfl ?_
    refine zz_iconst K dX8_look_8 zci_m1 ?_
    refine zz_callVl K zz_nw_nil [.int (-1 : Int32)] (zc8_longNo l D ad cy (-1 : Int32) σ _ h) gX8_look_X8_longNo rfl ⟨rfl, rfl⟩ zds_yX8_longNo_v ⟨Nat.le_of_ble_eq_true rfl, Nat.le_of_ble_eq_true rfl⟩ (wM_at_0 ad cy _) rfl rfl rfl rfl (Nat.le_of_ble_eq_true rfl) dX8_look_9 (fun r21 g22 h => ?_)
    exact hret _ _ h _ _ dX8_look_12
set_option maxRecDepth 100000 in
theorem zc8_look (l : Launch) (D : va_G) (ad : Nat → Nat) (cy : Nat → ClassId) (v1 : Int32) (v2 : Int32) (σ : zz_St) (Qp : Int64 → zz_St → Prop) (h : zq8_look v1 v2 σ Qp) : zz_Ml l yX8_look wsX8_look zrm8_look D (tysM cy) (wM ad cy) [] [.ref (ad 0), .int v1, .int v2] σ Qp :=
  zz_Ml.of zz_nw_nil (wM_ad ad cy) (by decide +kernel) rfl ⟨rfl, rfl⟩ (Nat.le_of_ble_eq_true rfl) (fun p e s m args below meth c A QW K hret => zu8_look_0 K  hret h)
theorem zin_X8_lays_X8 : ∀ w ∈ wsX80, w ∈ wsX8_lays := fun w h => List.mem_cons_of_mem _ (List.mem_append_right _ h)
theorem zlk_X8_lays_1 : Cond.fieldLink RX8 95 "SolidsRolledModel" "listSizes" "[I" ∈ wsX8_lays := List.mem_of_getElem? (i := 1) rfl
theorem zlk_X8_lays_2 : Cond.fieldLink RX8 98 "SolidsRolledModel" "items" "[I" ∈ wsX8_lays := List.mem_of_getElem? (i := 2) rfl
theorem zlk_X8_lays_3 : Cond.fieldLink RX8 32 "SolidsRolledModel" "prints" "[I" ∈ wsX8_lays := List.mem_of_getElem? (i := 3) rfl
abbrev zrm8_lays : Room := { frames := 2, cells := 0, slots := 0, locals := 45 }
set_option maxHeartbeats 4000000 in
set_option maxRecDepth 100000 in
theorem zu8_lays_34 {p : Program} {l : Launch} {e : Env} {s : State} {m : MethodId} {args : Array Value} {below : List Frame} {meth : Method} {c : Code} {Q : State → Prop} {D : va_G} {A : Nat → Prop} {ad : Nat → Nat} {cy : Nat → ClassId} {v1 : Int32} {v2 : Int32} {v3 : Int32} {σ : zz_St} (K : zz_K p s m args c cX8_lays 4 RX8 wsX8_lays D (tysM cy) A (wM ad cy) []) {Qp : Int32 → zz_St → Prop} (hret : ∀ (r : Int32) (σ2 : zz_St), narrow .int (.int r) = .int r → Qp r σ2 → ∀ (pc : Nat) (lv : List (Nat × Value)), decode cX8_lays pc = .ok (.ireturn, 1) → zz_G p l e zrm8_lays s m args below meth c Q D A (wM ad cy) 4 pc lv [.int r] σ2) (h : zq8_lays_34 v1 v2 v3 σ Qp) : zz_G p l e zrm8_lays s m args below meth c Q D A (wM ad cy) 4 34 [(0, .ref (ad 0)), (1, .int v1), (2, .int v2), (3, .int v3)] [] σ := by
  unfold zq8_lays_34 at h
  obtain ⟨I34, M34, h0, hs⟩ := h
  have key : ∀ (n : Nat) (v3 : Int32) (σ : zz_St), M34 v3 σ < n → I34 v3 σ → zz_G p l e zrm8_lays s m args below meth c Q D A (wM ad cy) 4 34 [(0, .ref (ad 0)), (1, .int v1), (2, .int v2), (3, .int v3)] [] σ := by
    intro n
    induction n with
    | zero => intro v3 σ hlt; exact absurd hlt (Nat.not_lt_zero _)
    | succ n ih =>
      intro v3 σ hlt hI
      have h := hs v3 σ hI
      have hB34 : ∀ (v3' : Int32) (σ' : zz_St), (fun v3' σ' => I34 v3' σ' ∧ M34 v3' σ' < M34 v3 σ) v3' σ' → zz_G p l e zrm8_lays s m args below meth c Q D A (wM ad cy) 4 34 [(0, .ref (ad 0)), (1, .int v1), (2, .int v2), (3, .int v3')] [] σ' := fun v3' σ' hz => ih v3' σ' (Nat.lt_of_lt_of_le hz.2 (Nat.le_of_lt_succ hlt)) hz.1
      refine zz_iload_n K 3 dX8_lays_34 rfl rfl ?_
      refine zz_aload_n K 0 dX8_lays_35 rfl rfl ?_
      refine zz_callVi1 K zz_nw_nil [] (zc8_tileMany l D ad cy  σ _ h) gX8_lays_X8_tileMany rfl ⟨rfl, rfl⟩ zds_yX8_tileMany_v ⟨Nat.le_of_ble_eq_true rfl, Nat.le_of_ble_eq_true rfl⟩ (wM_at_0 ad cy _) rfl rfl rfl rfl (Nat.le_of_ble_eq_true rfl) dX8_lays_36 (fun r12 h => ?_)
      refine zz_icmp_ge K 82 dX8_lays_39 rfl (fun c13 => ?_) (fun c13 => ?_)
      · have h := (And.left h) c13
        refine zz_aload_n K 0 dX8_lays_82 rfl rfl ?_
        refine zz_callVi1 K zz_nw_nil [] (zc8_tileMany l D ad cy  σ _ h) gX8_lays_X8_tileMany rfl ⟨rfl, rfl⟩ zds_yX8_tileMany_v ⟨Nat.le_of_ble_eq_true rfl, Nat.le_of_ble_eq_true rfl⟩ (wM_at_0 ad cy _) rfl rfl rfl rfl (Nat.le_of_ble_eq_true rfl) dX8_lays_83 (fun r14 h => ?_)
        exact hret _ _ rfl h _ _ dX8_lays_86
      · have h := (And.right h) c13
        refine zz_iload_n K 2 dX8_lays_42 rfl rfl ?_
        refine zz_aload_n K 0 dX8_lays_43 rfl rfl ?_
        refine zg8_36 K zin_X8_lays_X8 zlk_X8_lays_1 dX8_lays_44 ?_
        refine zz_iload_n K 1 dX8_lays_47 rfl rfl ?_
        obtain ⟨hin, h⟩ := h
        refine zz_iaload K 0 (wM_at_36 ad cy σ) rfl hin dX8_lays_48 ?_
        refine zz_iload_n K 3 dX8_lays_49 rfl rfl ?_
        refine zz_isub K dX8_lays_50 ?_
        refine zz_icmp_lt K 57 dX8_lays_51 rfl (fun c15 => ?_) (fun c15 => ?_)
        · have h := (And.left h) c15
          refine zz_aload_n K 0 dX8_lays_57 rfl rfl ?_
          refine zg8_37 K zin_X8_lays_X8 zlk_X8_lays_2 dX8_lays_58 ?_
          refine zz_bipush K dX8_lays_61 zcb_40 ?_
          refine zz_iload_n K 1 dX8_lays_63 rfl rfl ?_
          refine zz_imul K dX8_lays_64 ?_
          refine zz_iload_n K 2 dX8_lays_65 rfl rfl ?_
          refine zz_iadd K dX8_lays_66 ?_
          refine zz_iload_n K 3 dX8_lays_67 rfl rfl ?_
          refine zz_iadd K dX8_lays_68 ?_
          refine zz_aload_n K 0 dX8_lays_69 rfl rfl ?_
          refine zg8_5 K zin_X8_lays_X8 zlk_X8_lays_3 dX8_lays_70 ?_
          refine zz_iload_n K 3 dX8_lays_73 rfl rfl ?_
          obtain ⟨hin, h⟩ := h
          refine zz_iaload K 0 (wM_at_5 ad cy σ) rfl hin dX8_lays_74 ?_
          obtain ⟨hin, h⟩ := h
          refine zz_iastore K 0 (σ2 := zz_A σ 37 (upd ((σ).2.1 37) ((((40 : Int32) * v1) + v2) + v3).toNatClampNeg ((σ).2.1 5 v3.toNatClampNeg))) (wM_at_37 ad cy σ) (wM_set_37 ad cy σ _) rfl hin dX8_lays_75 ?_
          refine zz_nms (fun g16 eg16 => ?_)
          have h := h g16 eg16
          refine zz_iinc K 3 [(3, .int (v3 + (1 : Int32))), (0, .ref (ad 0)), (1, .int v1), (2, .int v2)] dX8_lays_76 zci_1 rfl (by decide) rfl ?_
          refine zz_goto K 34 dX8_lays_79 rfl ?_
          refine zz_sub [1, 2, 3, 0] [(0, .ref (ad 0)), (1, .int v1), (2, .int v2), (3, .int (v3 + (1 : Int32)))] rfl ?_
          exact hB34 (v3 + (1 : Int32)) g16 h
        · have h := (And.right h) c15
          refine zz_bipush K dX8_lays_54 zcb_m13 ?_
          exact hret _ _ rfl h _ _ dX8_lays_56
  exact key _ v3 σ (Nat.lt_succ_self _) h0
set_option maxHeartbeats 4000000 in
set_option maxRecDepth 100000 in
theorem zu8_lays_0 {p : Program} {l : Launch} {e : Env} {s : State} {m : MethodId} {args : Array Value} {below : List Frame} {meth : Method} {c : Code} {Q : State → Prop} {D : va_G} {A : Nat → Prop} {ad : Nat → Nat} {cy : Nat → ClassId} {v1 : Int32} {v2 : Int32} {σ : zz_St} (K : zz_K p s m args c cX8_lays 4 RX8 wsX8_lays D (tysM cy) A (wM ad cy) []) {Qp : Int32 → zz_St → Prop} (hret : ∀ (r : Int32) (σ2 : zz_St), narrow .int (.int r) = .int r → Qp r σ2 → ∀ (pc : Nat) (lv : List (Nat × Value)), decode cX8_lays pc = .ok (.ireturn, 1) → zz_G p l e zrm8_lays s m args below meth c Q D A (wM ad cy) 4 pc lv [.int r] σ2) (h : zq8_lays v1 v2 σ Qp) : zz_G p l e zrm8_lays s m args below meth c Q D A (wM ad cy) 4 0 [(0, .ref (ad 0)), (1, .int v1), (2, .int v2)] [] σ := by
  unfold zq8_lays at h
  refine zz_iload_n K 1 dX8_lays_0 rfl rfl ?_
  refine zz_callSi1 K zz_nw_nil [.int v1] (zc8_isList l D ad cy v1 σ _ h) gX8_lays_X8_isList rfl ⟨rfl, rfl⟩ zds_yX8_isList_s ⟨Nat.le_of_ble_eq_true rfl, Nat.le_of_ble_eq_true rfl⟩ rfl rfl (Nat.le_of_ble_eq_true rfl) dX8_lays_1 (fun r17 h => ?_)
  refine zz_if_ne K 13 dX8_lays_4 rfl (fun c18 => ?_) (fun c18 => ?_)
  · have h := (And.left h) c18
    refine zz_aload_n K 0 dX8_lays_13 rfl rfl ?_
    refine zg8_36 K zin_X8_lays_X8 zlk_X8_lays_1 dX8_lays_14 ?_
    refine zz_iload_n K 1 dX8_lays_17 rfl rfl ?_
    obtain ⟨hin, h⟩ := h
    refine zz_iaload K 0 (wM_at_36 ad cy σ) rfl hin dX8_lays_18 ?_
    refine zz_if_ge K 25 dX8_lays_19 rfl (fun c19 => ?_) (fun c19 => ?_)
    · have h := (And.left h) c19
      refine zz_iload_n K 2 dX8_lays_25 rfl rfl ?_
      refine zz_if_ge K 32 dX8_lays_26 rfl (fun c20 => ?_) (fun c20 => ?_)
      · have h := (And.left h) c20
        refine zz_iconst K dX8_lays_32 zci_0 ?_
        refine zz_istore_n K [(3, .int (0 : Int32)), (0, .ref (ad 0)), (1, .int v1), (2, .int v2)] dX8_lays_33 rfl (by decide) rfl ?_
        refine zz_sub [1, 2, 3, 0] [(0, .ref (ad 0)), (1, .int v1), (2, .int v2), (3, .int (0 : Int32))] rfl ?_
        exact zu8_lays_34 K hret h
      · have h := (And.right h) c20
        refine zz_bipush K dX8_lays_29 zcb_m13 ?_
        exact hret _ _ rfl h _ _ dX8_lays_31
    · have h := (And.right h) c19
      refine zz_bipush K dX8_lays_22 zcb_m11 ?_
      exact hret _ _ rfl h _ _ dX8_lays_24
  · have h := (And.right h) c18
    refine zz_aload_n K 0 dX8_lays_7 rfl rfl ?_
    refine zz_iconst K dX8_lays_8 zci_m1 ?_
    refine zz_callVi K zz_nw_nil [.int (-1 : Int32)] (zc8_no l D ad cy (-1 : Int32) σ _ h) gX8_lays_X8_no rfl ⟨rfl, rfl⟩ zds_yX8_no_v ⟨Nat.le_of_ble_eq_true rfl, Nat.le_of_ble_eq_true rfl⟩ (wM_at_0 ad cy _) rfl rfl rfl rfl (Nat.le_of_ble_eq_true rfl) dX8_lays_9 (fun r21 g22 h => ?_)
    exact hret _ _ rfl h _ _ dX8_lays_12
set_option maxRecDepth 100000 in
theorem zc8_lays (l : Launch) (D : va_G) (ad : Nat → Nat) (cy : Nat → ClassId) (v1 : Int32) (v2 : Int32) (σ : zz_St) (Qp : Int32 → zz_St → Prop) (h : zq8_lays v1 v2 σ Qp) : zz_Mi l yX8_lays wsX8_lays zrm8_lays D (tysM cy) (wM ad cy) [] [.ref (ad 0), .int v1, .int v2] σ Qp :=
  zz_Mi.of zz_nw_nil (wM_ad ad cy) (by decide +kernel) rfl ⟨rfl, rfl⟩ (Nat.le_of_ble_eq_true rfl) (fun p e s m args below meth c A QW K hret => zu8_lays_0 K  hret h)
theorem zin_X8_tells_X8 : ∀ w ∈ wsX80, w ∈ wsX8_tells := fun w h => List.mem_cons_of_mem _ (List.mem_append_right _ h)
theorem zlk_X8_tells_1 : Cond.fieldLink RX8 95 "SolidsRolledModel" "listSizes" "[I" ∈ wsX8_tells := List.mem_of_getElem? (i := 1) rfl
theorem zlk_X8_tells_2 : Cond.fieldLink RX8 98 "SolidsRolledModel" "items" "[I" ∈ wsX8_tells := List.mem_of_getElem? (i := 2) rfl
theorem zlk_X8_tells_3 : Cond.fieldLink RX8 32 "SolidsRolledModel" "prints" "[I" ∈ wsX8_tells := List.mem_of_getElem? (i := 3) rfl
abbrev zrm8_tells : Room := { frames := 2, cells := 0, slots := 0, locals := 46 }
set_option maxHeartbeats 4000000 in
set_option maxRecDepth 100000 in
theorem zu8_tells_27 {p : Program} {l : Launch} {e : Env} {s : State} {m : MethodId} {args : Array Value} {below : List Frame} {meth : Method} {c : Code} {Q : State → Prop} {D : va_G} {A : Nat → Prop} {ad : Nat → Nat} {cy : Nat → ClassId} {v1 : Int32} {v2 : Int32} {σ : zz_St} (K : zz_K p s m args c cX8_tells 3 RX8 wsX8_tells D (tysM cy) A (wM ad cy) []) {Qp : Int32 → zz_St → Prop} (hret : ∀ (r : Int32) (σ2 : zz_St), narrow .int (.int r) = .int r → Qp r σ2 → ∀ (pc : Nat) (lv : List (Nat × Value)), decode cX8_tells pc = .ok (.ireturn, 1) → zz_G p l e zrm8_tells s m args below meth c Q D A (wM ad cy) 3 pc lv [.int r] σ2) (h : zq8_tells_27 v1 v2 σ Qp) : zz_G p l e zrm8_tells s m args below meth c Q D A (wM ad cy) 3 27 [(0, .ref (ad 0)), (1, .int v1), (2, .int v2)] [] σ := by
  unfold zq8_tells_27 at h
  obtain ⟨I27, M27, h0, hs⟩ := h
  have key : ∀ (n : Nat) (v2 : Int32), M27 v2 < n → I27 v2 → zz_G p l e zrm8_tells s m args below meth c Q D A (wM ad cy) 3 27 [(0, .ref (ad 0)), (1, .int v1), (2, .int v2)] [] σ := by
    intro n
    induction n with
    | zero => intro v2 hlt; exact absurd hlt (Nat.not_lt_zero _)
    | succ n ih =>
      intro v2 hlt hI
      have h := hs v2 hI
      have hB27 : ∀ (v2' : Int32), (fun v2' => I27 v2' ∧ M27 v2' < M27 v2) v2' → zz_G p l e zrm8_tells s m args below meth c Q D A (wM ad cy) 3 27 [(0, .ref (ad 0)), (1, .int v1), (2, .int v2')] [] σ := fun v2' hz => ih v2' (Nat.lt_of_lt_of_le hz.2 (Nat.le_of_lt_succ hlt)) hz.1
      refine zz_iload_n K 2 dX8_tells_27 rfl rfl ?_
      refine zz_aload_n K 0 dX8_tells_28 rfl rfl ?_
      refine zg8_36 K zin_X8_tells_X8 zlk_X8_tells_1 dX8_tells_29 ?_
      refine zz_iload_n K 1 dX8_tells_32 rfl rfl ?_
      obtain ⟨hin, h⟩ := h
      refine zz_iaload K 0 (wM_at_36 ad cy σ) rfl hin dX8_tells_33 ?_
      refine zz_icmp_ge K 73 dX8_tells_34 rfl (fun c10 => ?_) (fun c10 => ?_)
      · have h := (And.left h) c10
        refine zz_bipush K dX8_tells_73 zcb_m9 ?_
        exact hret _ _ rfl h _ _ dX8_tells_75
      · have h := (And.right h) c10
        refine zz_aload_n K 0 dX8_tells_37 rfl rfl ?_
        refine zz_iload_n K 2 dX8_tells_38 rfl rfl ?_
        refine zz_callVi1 K zz_nw_nil [.int v2] (zc8_isTile l D ad cy v2 σ _ h) gX8_tells_X8_isTile rfl ⟨rfl, rfl⟩ zds_yX8_isTile_v ⟨Nat.le_of_ble_eq_true rfl, Nat.le_of_ble_eq_true rfl⟩ (wM_at_0 ad cy _) rfl rfl rfl rfl (Nat.le_of_ble_eq_true rfl) dX8_tells_39 (fun r11 h => ?_)
        refine zz_if_eq K 65 dX8_tells_42 rfl (fun c12 => ?_) (fun c12 => ?_)
        · have h := (And.left h) c12
          refine zz_iload_n K 2 dX8_tells_65 rfl rfl ?_
          exact hret _ _ rfl h _ _ dX8_tells_66
        · have h := (And.right h) c12
          refine zz_aload_n K 0 dX8_tells_45 rfl rfl ?_
          refine zg8_37 K zin_X8_tells_X8 zlk_X8_tells_2 dX8_tells_46 ?_
          refine zz_bipush K dX8_tells_49 zcb_40 ?_
          refine zz_iload_n K 1 dX8_tells_51 rfl rfl ?_
          refine zz_imul K dX8_tells_52 ?_
          refine zz_iload_n K 2 dX8_tells_53 rfl rfl ?_
          refine zz_iadd K dX8_tells_54 ?_
          obtain ⟨hin, h⟩ := h
          refine zz_iaload K 0 (wM_at_37 ad cy σ) rfl hin dX8_tells_55 ?_
          refine zz_aload_n K 0 dX8_tells_56 rfl rfl ?_
          refine zg8_5 K zin_X8_tells_X8 zlk_X8_tells_3 dX8_tells_57 ?_
          refine zz_iload_n K 2 dX8_tells_60 rfl rfl ?_
          obtain ⟨hin, h⟩ := h
          refine zz_iaload K 0 (wM_at_5 ad cy σ) rfl hin dX8_tells_61 ?_
          refine zz_icmp_eq K 67 dX8_tells_62 rfl (fun c13 => ?_) (fun c13 => ?_)
          · have h := (And.left h) c13
            refine zz_iinc K 2 [(2, .int (v2 + (1 : Int32))), (0, .ref (ad 0)), (1, .int v1)] dX8_tells_67 zci_1 rfl (by decide) rfl ?_
            refine zz_goto K 27 dX8_tells_70 rfl ?_
            refine zz_sub [1, 2, 0] [(0, .ref (ad 0)), (1, .int v1), (2, .int (v2 + (1 : Int32)))] rfl ?_
            exact hB27 (v2 + (1 : Int32)) h
          · have h := (And.right h) c13
            refine zz_iload_n K 2 dX8_tells_65 rfl rfl ?_
            exact hret _ _ rfl h _ _ dX8_tells_66
  exact key _ v2 (Nat.lt_succ_self _) h0
set_option maxHeartbeats 4000000 in
set_option maxRecDepth 100000 in
theorem zu8_tells_0 {p : Program} {l : Launch} {e : Env} {s : State} {m : MethodId} {args : Array Value} {below : List Frame} {meth : Method} {c : Code} {Q : State → Prop} {D : va_G} {A : Nat → Prop} {ad : Nat → Nat} {cy : Nat → ClassId} {v1 : Int32} {σ : zz_St} (K : zz_K p s m args c cX8_tells 3 RX8 wsX8_tells D (tysM cy) A (wM ad cy) []) {Qp : Int32 → zz_St → Prop} (hret : ∀ (r : Int32) (σ2 : zz_St), narrow .int (.int r) = .int r → Qp r σ2 → ∀ (pc : Nat) (lv : List (Nat × Value)), decode cX8_tells pc = .ok (.ireturn, 1) → zz_G p l e zrm8_tells s m args below meth c Q D A (wM ad cy) 3 pc lv [.int r] σ2) (h : zq8_tells v1 σ Qp) : zz_G p l e zrm8_tells s m args below meth c Q D A (wM ad cy) 3 0 [(0, .ref (ad 0)), (1, .int v1)] [] σ := by
  unfold zq8_tells at h
  refine zz_iload_n K 1 dX8_tells_0 rfl rfl ?_
  refine zz_callSi1 K zz_nw_nil [.int v1] (zc8_isList l D ad cy v1 σ _ h) gX8_tells_X8_isList rfl ⟨rfl, rfl⟩ zds_yX8_isList_s ⟨Nat.le_of_ble_eq_true rfl, Nat.le_of_ble_eq_true rfl⟩ rfl rfl (Nat.le_of_ble_eq_true rfl) dX8_tells_1 (fun r14 h => ?_)
  refine zz_if_ne K 13 dX8_tells_4 rfl (fun c15 => ?_) (fun c15 => ?_)
  · have h := (And.left h) c15
    refine zz_aload_n K 0 dX8_tells_13 rfl rfl ?_
    refine zg8_36 K zin_X8_tells_X8 zlk_X8_tells_1 dX8_tells_14 ?_
    refine zz_iload_n K 1 dX8_tells_17 rfl rfl ?_
    obtain ⟨hin, h⟩ := h
    refine zz_iaload K 0 (wM_at_36 ad cy σ) rfl hin dX8_tells_18 ?_
    refine zz_if_ge K 25 dX8_tells_19 rfl (fun c16 => ?_) (fun c16 => ?_)
    · have h := (And.left h) c16
      refine zz_iconst K dX8_tells_25 zci_0 ?_
      refine zz_istore_n K [(2, .int (0 : Int32)), (0, .ref (ad 0)), (1, .int v1)] dX8_tells_26 rfl (by decide) rfl ?_
      refine zz_sub [1, 2, 0] [(0, .ref (ad 0)), (1, .int v1), (2, .int (0 : Int32))] rfl ?_
      exact zu8_tells_27 K hret h
    · have h := (And.right h) c16
      refine zz_bipush K dX8_tells_22 zcb_m11 ?_
      exact hret _ _ rfl h _ _ dX8_tells_24
  · have h := (And.right h) c15
    refine zz_aload_n K 0 dX8_tells_7 rfl rfl ?_
    refine zz_iconst K dX8_tells_8 zci_m1 ?_
    refine zz_callVi K zz_nw_nil [.int (-1 : Int32)] (zc8_no l D ad cy (-1 : Int32) σ _ h) gX8_tells_X8_no rfl ⟨rfl, rfl⟩ zds_yX8_no_v ⟨Nat.le_of_ble_eq_true rfl, Nat.le_of_ble_eq_true rfl⟩ (wM_at_0 ad cy _) rfl rfl rfl rfl (Nat.le_of_ble_eq_true rfl) dX8_tells_9 (fun r17 g18 h => ?_)
    exact hret _ _ rfl h _ _ dX8_tells_12
set_option maxRecDepth 100000 in
theorem zc8_tells (l : Launch) (D : va_G) (ad : Nat → Nat) (cy : Nat → ClassId) (v1 : Int32) (σ : zz_St) (Qp : Int32 → zz_St → Prop) (h : zq8_tells v1 σ Qp) : zz_Mi l yX8_tells wsX8_tells zrm8_tells D (tysM cy) (wM ad cy) [] [.ref (ad 0), .int v1] σ Qp :=
  zz_Mi.of zz_nw_nil (wM_ad ad cy) (by decide +kernel) rfl ⟨rfl, rfl⟩ (Nat.le_of_ble_eq_true rfl) (fun p e s m args below meth c A QW K hret => zu8_tells_0 K  hret h)
theorem zlk_X8_isRack_1 : Cond.constantLong RX8 204 (2) ∈ wsX8_isRack := List.mem_of_getElem? (i := 1) rfl
abbrev zrm8_isRack : Room := { frames := 1, cells := 0, slots := 0, locals := 25 }
set_option maxHeartbeats 4000000 in
set_option maxRecDepth 100000 in
theorem zu8_isRack_0 {p : Program} {l : Launch} {e : Env} {s : State} {m : MethodId} {args : Array Value} {below : List Frame} {meth : Method} {c : Code} {Q : State → Prop} {D : va_G} {A : Nat → Prop} {ad : Nat → Nat} {cy : Nat → ClassId} {v0 : Int32} {σ : zz_St} (K : zz_K p s m args c cX8_isRack 1 RX8 wsX8_isRack D (tysM cy) A (wM ad cy) []) {Qp : Int32 → Prop} (hret : ∀ (r : Int32), narrow .boolean (.int r) = .int r → Qp r → ∀ (pc : Nat) (lv : List (Nat × Value)), decode cX8_isRack pc = .ok (.ireturn, 1) → zz_G p l e zrm8_isRack s m args below meth c Q D A (wM ad cy) 1 pc lv [.int r] σ) (h : zq8_isRack v0 Qp) : zz_G p l e zrm8_isRack s m args below meth c Q D A (wM ad cy) 1 0 [(0, .int v0)] [] σ := by
  unfold zq8_isRack at h
  refine zz_iload_n K 0 dX8_isRack_0 rfl rfl ?_
  refine zz_i2l K dX8_isRack_1 ?_
  refine zz_lconst K (v := (0 : Int64)) dX8_isRack_2 rfl ?_
  refine zz_ldc2 K zlk_X8_isRack_1 dX8_isRack_3 ?_
  refine zz_callSi1 K zz_nw_nil [.long (v0.toInt64), .long (0 : Int64), .long (2 : Int64)] (zc8_in l D ad cy (v0.toInt64) (0 : Int64) (2 : Int64) σ _ h) gX8_isRack_X8_in rfl ⟨rfl, rfl⟩ zds_yX8_in_s ⟨Nat.le_of_ble_eq_true rfl, Nat.le_of_ble_eq_true rfl⟩ rfl rfl (Nat.le_of_ble_eq_true rfl) dX8_isRack_6 (fun r2 h => ?_)
  obtain ⟨hnb, h⟩ := h
  exact hret _ (zz_nb hnb) h _ _ dX8_isRack_9
set_option maxRecDepth 100000 in
theorem zc8_isRack (l : Launch) (D : va_G) (ad : Nat → Nat) (cy : Nat → ClassId) (v0 : Int32) (σ : zz_St) (Qp : Int32 → Prop) (h : zq8_isRack v0 Qp) : zz_Mi l yX8_isRack wsX8_isRack zrm8_isRack D (tysM cy) (wM ad cy) [] [.int v0] σ (fun r σ2 => σ2 = σ ∧ Qp r) :=
  zz_Mi.of zz_nw_nil (wM_ad ad cy) (by decide +kernel) rfl ⟨rfl, rfl⟩ (Nat.le_of_ble_eq_true rfl) (fun p e s m args below meth c A QW K hret => zu8_isRack_0 K  (fun r hn hq pc lv hd => hret r σ hn ⟨rfl, hq⟩ pc lv hd) h)
theorem zlk_X8_rack_1 : Cond.constantLong RX8 142 (5) ∈ wsX8_rack := List.mem_of_getElem? (i := 1) rfl
theorem zcb_9 : (Int8.ofInt (9)).toInt32 = (9 : Int32) := by decide
theorem zin_X8_rack_X8 : ∀ w ∈ wsX80, w ∈ wsX8_rack := fun w h => List.mem_cons_of_mem _ (List.mem_append_right _ h)
theorem zlk_X8_rack_2 : Cond.fieldLink RX8 101 "SolidsRolledModel" "rackSizes" "[I" ∈ wsX8_rack := List.mem_of_getElem? (i := 2) rfl
theorem zlk_X8_rack_3 : Cond.fieldLink RX8 104 "SolidsRolledModel" "rackKinds" "[I" ∈ wsX8_rack := List.mem_of_getElem? (i := 3) rfl
theorem zlk_X8_rack_4 : Cond.fieldLink RX8 107 "SolidsRolledModel" "laidKinds" "[I" ∈ wsX8_rack := List.mem_of_getElem? (i := 4) rfl
theorem zds_yX8_isRack_s : yX8_isRack.cls ≠ "java/lang/invoke/MethodHandle" ∧ yX8_isRack.cls ≠ "java/lang/invoke/VarHandle" ∧ (parseMethodDescriptor yX8_isRack.desc).map (fun d => d.parameters.length) = some 1 := by decide +kernel
abbrev zrm8_rack : Room := { frames := 2, cells := 0, slots := 0, locals := 45 }
set_option maxHeartbeats 4000000 in
set_option maxRecDepth 100000 in
theorem zu8_rack_69 {p : Program} {l : Launch} {e : Env} {s : State} {m : MethodId} {args : Array Value} {below : List Frame} {meth : Method} {c : Code} {Q : State → Prop} {D : va_G} {A : Nat → Prop} {ad : Nat → Nat} {cy : Nat → ClassId} {v1 : Int32} {v4 : Int32} {σ : zz_St} (K : zz_K p s m args c cX8_rack 5 RX8 wsX8_rack D (tysM cy) A (wM ad cy) []) {Qp : Int32 → zz_St → Prop} (hret : ∀ (r : Int32) (σ2 : zz_St), narrow .int (.int r) = .int r → Qp r σ2 → ∀ (pc : Nat) (lv : List (Nat × Value)), decode cX8_rack pc = .ok (.ireturn, 1) → zz_G p l e zrm8_rack s m args below meth c Q D A (wM ad cy) 5 pc lv [.int r] σ2) (h : zq8_rack_69 v1 v4 σ Qp) : zz_G p l e zrm8_rack s m args below meth c Q D A (wM ad cy) 5 69 [(0, .ref (ad 0)), (1, .int v1), (4, .int v4)] [] σ := by
  unfold zq8_rack_69 at h
  obtain ⟨I69, M69, h0, hs⟩ := h
  have key : ∀ (n : Nat) (v4 : Int32) (σ : zz_St), M69 v4 σ < n → I69 v4 σ → zz_G p l e zrm8_rack s m args below meth c Q D A (wM ad cy) 5 69 [(0, .ref (ad 0)), (1, .int v1), (4, .int v4)] [] σ := by
    intro n
    induction n with
    | zero => intro v4 σ hlt; exact absurd hlt (Nat.not_lt_zero _)
    | succ n ih =>
      intro v4 σ hlt hI
      have h := hs v4 σ hI
      have hB69 : ∀ (v4' : Int32) (σ' : zz_St), (fun v4' σ' => I69 v4' σ' ∧ M69 v4' σ' < M69 v4 σ) v4' σ' → zz_G p l e zrm8_rack s m args below meth c Q D A (wM ad cy) 5 69 [(0, .ref (ad 0)), (1, .int v1), (4, .int v4')] [] σ' := fun v4' σ' hz => ih v4' σ' (Nat.lt_of_lt_of_le hz.2 (Nat.le_of_lt_succ hlt)) hz.1
      refine zz_iload K 2 dX8_rack_69 rfl ?_
      refine zz_bipush K dX8_rack_71 zcb_9 ?_
      refine zz_icmp_ge K 95 dX8_rack_73 rfl (fun c17 => ?_) (fun c17 => ?_)
      · have h := (And.left h) c17
        refine zz_iconst K dX8_rack_95 zci_1 ?_
        exact hret _ _ rfl h _ _ dX8_rack_96
      · have h := (And.right h) c17
        refine zz_aload_n K 0 dX8_rack_76 rfl rfl ?_
        refine zg8_40 K zin_X8_rack_X8 zlk_X8_rack_4 dX8_rack_77 ?_
        refine zz_bipush K dX8_rack_80 zcb_9 ?_
        refine zz_iload_n K 1 dX8_rack_82 rfl rfl ?_
        refine zz_imul K dX8_rack_83 ?_
        refine zz_iload K 2 dX8_rack_84 rfl ?_
        refine zz_iadd K dX8_rack_86 ?_
        refine zz_iconst K dX8_rack_87 zci_m1 ?_
        obtain ⟨hin, h⟩ := h
        refine zz_iastore K 0 (σ2 := zz_A σ 40 (upd ((σ).2.1 40) (((9 : Int32) * v1) + v4).toNatClampNeg (-1 : Int32))) (wM_at_40 ad cy σ) (wM_set_40 ad cy σ _) rfl hin dX8_rack_88 ?_
        refine zz_nms (fun g18 eg18 => ?_)
        have h := h g18 eg18
        refine zz_iinc K 2 [(4, .int (v4 + (1 : Int32))), (0, .ref (ad 0)), (1, .int v1)] dX8_rack_89 zci_1 rfl (by decide) rfl ?_
        refine zz_goto K 69 dX8_rack_92 rfl ?_
        refine zz_sub [1, 2, 0] [(0, .ref (ad 0)), (1, .int v1), (4, .int (v4 + (1 : Int32)))] rfl ?_
        exact hB69 (v4 + (1 : Int32)) g18 h
  exact key _ v4 σ (Nat.lt_succ_self _) h0
set_option maxHeartbeats 4000000 in
set_option maxRecDepth 100000 in
theorem zu8_rack_0 {p : Program} {l : Launch} {e : Env} {s : State} {m : MethodId} {args : Array Value} {below : List Frame} {meth : Method} {c : Code} {Q : State → Prop} {D : va_G} {A : Nat → Prop} {ad : Nat → Nat} {cy : Nat → ClassId} {v1 : Int32} {v2 : Int32} {v3 : Int32} {σ : zz_St} (K : zz_K p s m args c cX8_rack 5 RX8 wsX8_rack D (tysM cy) A (wM ad cy) []) {Qp : Int32 → zz_St → Prop} (hret : ∀ (r : Int32) (σ2 : zz_St), narrow .int (.int r) = .int r → Qp r σ2 → ∀ (pc : Nat) (lv : List (Nat × Value)), decode cX8_rack pc = .ok (.ireturn, 1) → zz_G p l e zrm8_rack s m args below meth c Q D A (wM ad cy) 5 pc lv [.int r] σ2) (h : zq8_rack v1 v2 v3 σ Qp) : zz_G p l e zrm8_rack s m args below meth c Q D A (wM ad cy) 5 0 [(0, .ref (ad 0)), (1, .int v1), (2, .int v2), (3, .int v3)] [] σ := by
  unfold zq8_rack at h
  refine zz_iload_n K 1 dX8_rack_0 rfl rfl ?_
  refine zz_callSi1 K zz_nw_nil [.int v1] (zc8_isRack l D ad cy v1 σ _ h) gX8_rack_X8_isRack rfl ⟨rfl, rfl⟩ zds_yX8_isRack_s ⟨Nat.le_of_ble_eq_true rfl, Nat.le_of_ble_eq_true rfl⟩ rfl rfl (Nat.le_of_ble_eq_true rfl) dX8_rack_1 (fun r19 h => ?_)
  refine zz_if_ne K 13 dX8_rack_4 rfl (fun c20 => ?_) (fun c20 => ?_)
  · have h := (And.left h) c20
    refine zz_iload_n K 2 dX8_rack_13 rfl rfl ?_
    refine zz_i2l K dX8_rack_14 ?_
    refine zz_lconst K (v := (0 : Int64)) dX8_rack_15 rfl ?_
    refine zz_ldc2 K zlk_X8_rack_1 dX8_rack_16 ?_
    refine zz_callSi1 K zz_nw_nil [.long (v2.toInt64), .long (0 : Int64), .long (5 : Int64)] (zc8_in l D ad cy (v2.toInt64) (0 : Int64) (5 : Int64) σ _ h) gX8_rack_X8_in rfl ⟨rfl, rfl⟩ zds_yX8_in_s ⟨Nat.le_of_ble_eq_true rfl, Nat.le_of_ble_eq_true rfl⟩ rfl rfl (Nat.le_of_ble_eq_true rfl) dX8_rack_19 (fun r21 h => ?_)
    refine zz_if_ne K 32 dX8_rack_22 rfl (fun c22 => ?_) (fun c22 => ?_)
    · have h := (And.left h) c22
      refine zz_iload_n K 3 dX8_rack_32 rfl rfl ?_
      refine zz_bipush K dX8_rack_33 zcb_9 ?_
      refine zz_icmp_le K 45 dX8_rack_35 rfl (fun c23 => ?_) (fun c23 => ?_)
      · have h := (And.left h) c23
        refine zz_iload_n K 3 dX8_rack_45 rfl rfl ?_
        refine zz_if_ge K 52 dX8_rack_46 rfl (fun c24 => ?_) (fun c24 => ?_)
        · have h := (And.left h) c24
          refine zz_aload_n K 0 dX8_rack_52 rfl rfl ?_
          refine zg8_38 K zin_X8_rack_X8 zlk_X8_rack_2 dX8_rack_53 ?_
          refine zz_iload_n K 1 dX8_rack_56 rfl rfl ?_
          refine zz_iload_n K 3 dX8_rack_57 rfl rfl ?_
          obtain ⟨hin, h⟩ := h
          refine zz_iastore K 0 (σ2 := zz_A σ 38 (upd ((σ).2.1 38) v1.toNatClampNeg v3)) (wM_at_38 ad cy σ) (wM_set_38 ad cy σ _) rfl hin dX8_rack_58 ?_
          refine zz_nms (fun g25 eg25 => ?_)
          have h := h g25 eg25
          refine zz_aload_n K 0 dX8_rack_59 rfl rfl ?_
          refine zg8_39 K zin_X8_rack_X8 zlk_X8_rack_3 dX8_rack_60 ?_
          refine zz_iload_n K 1 dX8_rack_63 rfl rfl ?_
          refine zz_iload_n K 2 dX8_rack_64 rfl rfl ?_
          obtain ⟨hin, h⟩ := h
          refine zz_iastore K 0 (σ2 := zz_A g25 39 (upd (g25.2.1 39) v1.toNatClampNeg v2)) (wM_at_39 ad cy g25) (wM_set_39 ad cy g25 _) rfl hin dX8_rack_65 ?_
          refine zz_nms (fun g26 eg26 => ?_)
          have h := h g26 eg26
          refine zz_iconst K dX8_rack_66 zci_0 ?_
          refine zz_istore K [(4, .int (0 : Int32)), (0, .ref (ad 0)), (1, .int v1), (2, .int v2), (3, .int v3)] dX8_rack_67 (by decide) rfl ?_
          refine zz_sub [1, 2, 0] [(0, .ref (ad 0)), (1, .int v1), (4, .int (0 : Int32))] rfl ?_
          exact zu8_rack_69 K hret h
        · have h := (And.right h) c24
          refine zz_bipush K dX8_rack_49 zcb_m14 ?_
          exact hret _ _ rfl h _ _ dX8_rack_51
      · have h := (And.right h) c23
        refine zz_aload_n K 0 dX8_rack_38 rfl rfl ?_
        refine zz_bipush K dX8_rack_39 zcb_m6 ?_
        refine zz_callVi K zz_nw_nil [.int (-6 : Int32)] (zc8_no l D ad cy (-6 : Int32) σ _ h) gX8_rack_X8_no rfl ⟨rfl, rfl⟩ zds_yX8_no_v ⟨Nat.le_of_ble_eq_true rfl, Nat.le_of_ble_eq_true rfl⟩ (wM_at_0 ad cy _) rfl rfl rfl rfl (Nat.le_of_ble_eq_true rfl) dX8_rack_41 (fun r27 g28 h => ?_)
        exact hret _ _ rfl h _ _ dX8_rack_44
    · have h := (And.right h) c22
      refine zz_aload_n K 0 dX8_rack_25 rfl rfl ?_
      refine zz_bipush K dX8_rack_26 zcb_m2 ?_
      refine zz_callVi K zz_nw_nil [.int (-2 : Int32)] (zc8_no l D ad cy (-2 : Int32) σ _ h) gX8_rack_X8_no rfl ⟨rfl, rfl⟩ zds_yX8_no_v ⟨Nat.le_of_ble_eq_true rfl, Nat.le_of_ble_eq_true rfl⟩ (wM_at_0 ad cy _) rfl rfl rfl rfl (Nat.le_of_ble_eq_true rfl) dX8_rack_28 (fun r29 g30 h => ?_)
      exact hret _ _ rfl h _ _ dX8_rack_31
  · have h := (And.right h) c20
    refine zz_aload_n K 0 dX8_rack_7 rfl rfl ?_
    refine zz_iconst K dX8_rack_8 zci_m1 ?_
    refine zz_callVi K zz_nw_nil [.int (-1 : Int32)] (zc8_no l D ad cy (-1 : Int32) σ _ h) gX8_rack_X8_no rfl ⟨rfl, rfl⟩ zds_yX8_no_v ⟨Nat.le_of_ble_eq_true rfl, Nat.le_of_ble_eq_true rfl⟩ (wM_at_0 ad cy _) rfl rfl rfl rfl (Nat.le_of_ble_eq_true rfl) dX8_rack_9 (fun r31 g32 h => ?_)
    exact hret _ _ rfl h _ _ dX8_rack_12
set_option maxRecDepth 100000 in
theorem zc8_rack (l : Launch) (D : va_G) (ad : Nat → Nat) (cy : Nat → ClassId) (v1 : Int32) (v2 : Int32) (v3 : Int32) (σ : zz_St) (Qp : Int32 → zz_St → Prop) (h : zq8_rack v1 v2 v3 σ Qp) : zz_Mi l yX8_rack wsX8_rack zrm8_rack D (tysM cy) (wM ad cy) [] [.ref (ad 0), .int v1, .int v2, .int v3] σ Qp :=
  zz_Mi.of zz_nw_nil (wM_ad ad cy) (by decide +kernel) rfl ⟨rfl, rfl⟩ (Nat.le_of_ble_eq_true rfl) (fun p e s m args below meth c A QW K hret => zu8_rack_0 K  hret h)
theorem zin_X8_racks_X8 : ∀ w ∈ wsX80, w ∈ wsX8_racks := fun w h => List.mem_cons_of_mem _ (List.mem_append_right _ h)
theorem zlk_X8_racks_1 : Cond.fieldLink RX8 38 "SolidsRolledModel" "isThere" "Z" ∈ wsX8_racks := List.mem_of_getElem? (i := 1) rfl
theorem zlk_X8_racks_2 : Cond.fieldLink RX8 101 "SolidsRolledModel" "rackSizes" "[I" ∈ wsX8_racks := List.mem_of_getElem? (i := 2) rfl
theorem zlk_X8_racks_3 : Cond.fieldLink RX8 133 "SolidsRolledModel" "kind" "I" ∈ wsX8_racks := List.mem_of_getElem? (i := 3) rfl
theorem zlk_X8_racks_4 : Cond.fieldLink RX8 104 "SolidsRolledModel" "rackKinds" "[I" ∈ wsX8_racks := List.mem_of_getElem? (i := 4) rfl
theorem zcb_m16 : (Int8.ofInt (-16)).toInt32 = (-16 : Int32) := by decide
theorem zlk_X8_racks_5 : Cond.fieldLink RX8 107 "SolidsRolledModel" "laidKinds" "[I" ∈ wsX8_racks := List.mem_of_getElem? (i := 5) rfl
theorem zlk_X8_racks_6 : Cond.fieldLink RX8 110 "SolidsRolledModel" "laidBelow" "[I" ∈ wsX8_racks := List.mem_of_getElem? (i := 6) rfl
abbrev zrm8_racks : Room := { frames := 2, cells := 0, slots := 0, locals := 45 }
set_option maxHeartbeats 4000000 in
set_option maxRecDepth 100000 in
theorem zu8_racks_153 {p : Program} {l : Launch} {e : Env} {s : State} {m : MethodId} {args : Array Value} {below : List Frame} {meth : Method} {c : Code} {Q : State → Prop} {D : va_G} {A : Nat → Prop} {ad : Nat → Nat} {cy : Nat → ClassId} {v1 : Int32} {v2 : Int32} {v3 : Int32} {s0 : Int32} {s1 : Int32} {σ : zz_St} (K : zz_K p s m args c cX8_racks 4 RX8 wsX8_racks D (tysM cy) A (wM ad cy) []) {Qp : Int32 → zz_St → Prop} (hret : ∀ (r : Int32) (σ2 : zz_St), narrow .int (.int r) = .int r → Qp r σ2 → ∀ (pc : Nat) (lv : List (Nat × Value)), decode cX8_racks pc = .ok (.ireturn, 1) → zz_G p l e zrm8_racks s m args below meth c Q D A (wM ad cy) 4 pc lv [.int r] σ2) (h : zq8_racks_153 v1 v2 v3 s0 s1 σ Qp) : zz_G p l e zrm8_racks s m args below meth c Q D A (wM ad cy) 4 153 [(0, .ref (ad 0)), (1, .int v1), (2, .int v2), (3, .int v3)] [.int s0, .int s1, .ref (ad 40)] σ := by
  unfold zq8_racks_153 at h
  obtain ⟨hin, h⟩ := h
  refine zz_iastore K 0 (σ2 := zz_A σ 40 (upd ((σ).2.1 40) s1.toNatClampNeg s0)) (wM_at_40 ad cy σ) (wM_set_40 ad cy σ _) rfl hin dX8_racks_153 ?_
  refine zz_nms (fun g26 eg26 => ?_)
  have h := h g26 eg26
  refine zz_aload_n K 0 dX8_racks_154 rfl rfl ?_
  refine zg8_41 K zin_X8_racks_X8 zlk_X8_racks_6 dX8_racks_155 ?_
  refine zz_bipush K dX8_racks_158 zcb_9 ?_
  refine zz_iload_n K 1 dX8_racks_160 rfl rfl ?_
  refine zz_imul K dX8_racks_161 ?_
  refine zz_iload_n K 2 dX8_racks_162 rfl rfl ?_
  refine zz_iadd K dX8_racks_163 ?_
  refine zz_iload_n K 3 dX8_racks_164 rfl rfl ?_
  refine zz_iconst K dX8_racks_165 zci_1 ?_
  refine zz_icmp_ne K 176 dX8_racks_166 rfl (fun c27 => ?_) (fun c27 => ?_)
  · have h := (And.left h) c27
    refine zz_iconst K dX8_racks_176 zci_0 ?_
    obtain ⟨hin, h⟩ := h
    refine zz_iastore K 0 (σ2 := zz_A g26 41 (upd (g26.2.1 41) (((9 : Int32) * v1) + v2).toNatClampNeg (0 : Int32))) (wM_at_41 ad cy g26) (wM_set_41 ad cy g26 _) rfl hin dX8_racks_177 ?_
    refine zz_nms (fun g28 eg28 => ?_)
    have h := h g28 eg28
    refine zz_iconst K dX8_racks_178 zci_1 ?_
    exact hret _ _ rfl h _ _ dX8_racks_179
  · have h := (And.right h) c27
    refine zz_aload_n K 0 dX8_racks_169 rfl rfl ?_
    refine zz_callVi1 K zz_nw_nil [] (zc8_below l D ad cy  g26 _ h) gX8_racks_X8_below rfl ⟨rfl, rfl⟩ zds_yX8_below_v ⟨Nat.le_of_ble_eq_true rfl, Nat.le_of_ble_eq_true rfl⟩ (wM_at_0 ad cy _) rfl rfl rfl rfl (Nat.le_of_ble_eq_true rfl) dX8_racks_170 (fun r29 h => ?_)
    refine zz_goto K 177 dX8_racks_173 rfl ?_
    obtain ⟨hin, h⟩ := h
    refine zz_iastore K 0 (σ2 := zz_A g26 41 (upd (g26.2.1 41) (((9 : Int32) * v1) + v2).toNatClampNeg r29)) (wM_at_41 ad cy g26) (wM_set_41 ad cy g26 _) rfl hin dX8_racks_177 ?_
    refine zz_nms (fun g30 eg30 => ?_)
    have h := h g30 eg30
    refine zz_iconst K dX8_racks_178 zci_1 ?_
    exact hret _ _ rfl h _ _ dX8_racks_179
set_option maxHeartbeats 4000000 in
set_option maxRecDepth 100000 in
theorem zu8_racks_130 {p : Program} {l : Launch} {e : Env} {s : State} {m : MethodId} {args : Array Value} {below : List Frame} {meth : Method} {c : Code} {Q : State → Prop} {D : va_G} {A : Nat → Prop} {ad : Nat → Nat} {cy : Nat → ClassId} {v1 : Int32} {v2 : Int32} {v3 : Int32} {σ : zz_St} (K : zz_K p s m args c cX8_racks 4 RX8 wsX8_racks D (tysM cy) A (wM ad cy) []) {Qp : Int32 → zz_St → Prop} (hret : ∀ (r : Int32) (σ2 : zz_St), narrow .int (.int r) = .int r → Qp r σ2 → ∀ (pc : Nat) (lv : List (Nat × Value)), decode cX8_racks pc = .ok (.ireturn, 1) → zz_G p l e zrm8_racks s m args below meth c Q D A (wM ad cy) 4 pc lv [.int r] σ2) (h : zq8_racks_130 v1 v2 v3 σ Qp) : zz_G p l e zrm8_racks s m args below meth c Q D A (wM ad cy) 4 130 [(0, .ref (ad 0)), (1, .int v1), (2, .int v2), (3, .int v3)] [] σ := by
  unfold zq8_racks_130 at h
  refine zz_aload_n K 0 dX8_racks_130 rfl rfl ?_
  refine zg8_40 K zin_X8_racks_X8 zlk_X8_racks_5 dX8_racks_131 ?_
  refine zz_bipush K dX8_racks_134 zcb_9 ?_
  refine zz_iload_n K 1 dX8_racks_136 rfl rfl ?_
  refine zz_imul K dX8_racks_137 ?_
  refine zz_iload_n K 2 dX8_racks_138 rfl rfl ?_
  refine zz_iadd K dX8_racks_139 ?_
  refine zz_iload_n K 3 dX8_racks_140 rfl rfl ?_
  refine zz_iconst K dX8_racks_141 zci_1 ?_
  refine zz_icmp_ne K 152 dX8_racks_142 rfl (fun c31 => ?_) (fun c31 => ?_)
  · have h := (And.left h) c31
    refine zz_iconst K dX8_racks_152 zci_m1 ?_
    exact zu8_racks_153 K hret h
  · have h := (And.right h) c31
    refine zz_aload_n K 0 dX8_racks_145 rfl rfl ?_
    refine zg8_7 K zin_X8_racks_X8 zlk_X8_racks_3 dX8_racks_146 ?_
    refine zz_goto K 153 dX8_racks_149 rfl ?_
    exact zu8_racks_153 K hret h
set_option maxHeartbeats 4000000 in
set_option maxRecDepth 100000 in
theorem zu8_racks_49 {p : Program} {l : Launch} {e : Env} {s : State} {m : MethodId} {args : Array Value} {below : List Frame} {meth : Method} {c : Code} {Q : State → Prop} {D : va_G} {A : Nat → Prop} {ad : Nat → Nat} {cy : Nat → ClassId} {v1 : Int32} {v2 : Int32} {v3 : Int32} {σ : zz_St} (K : zz_K p s m args c cX8_racks 4 RX8 wsX8_racks D (tysM cy) A (wM ad cy) []) {Qp : Int32 → zz_St → Prop} (hret : ∀ (r : Int32) (σ2 : zz_St), narrow .int (.int r) = .int r → Qp r σ2 → ∀ (pc : Nat) (lv : List (Nat × Value)), decode cX8_racks pc = .ok (.ireturn, 1) → zz_G p l e zrm8_racks s m args below meth c Q D A (wM ad cy) 4 pc lv [.int r] σ2) (h : zq8_racks_49 v1 v2 v3 σ Qp) : zz_G p l e zrm8_racks s m args below meth c Q D A (wM ad cy) 4 49 [(0, .ref (ad 0)), (1, .int v1), (2, .int v2), (3, .int v3)] [] σ := by
  unfold zq8_racks_49 at h
  refine zz_aload_n K 0 dX8_racks_49 rfl rfl ?_
  refine zg8_38 K zin_X8_racks_X8 zlk_X8_racks_2 dX8_racks_50 ?_
  refine zz_iload_n K 1 dX8_racks_53 rfl rfl ?_
  obtain ⟨hin, h⟩ := h
  refine zz_iaload K 0 (wM_at_38 ad cy σ) rfl hin dX8_racks_54 ?_
  refine zz_if_ge K 61 dX8_racks_55 rfl (fun c32 => ?_) (fun c32 => ?_)
  · have h := (And.left h) c32
    refine zz_iload_n K 2 dX8_racks_61 rfl rfl ?_
    refine zz_i2l K dX8_racks_62 ?_
    refine zz_lconst K (v := (0 : Int64)) dX8_racks_63 rfl ?_
    refine zz_aload_n K 0 dX8_racks_64 rfl rfl ?_
    refine zg8_38 K zin_X8_racks_X8 zlk_X8_racks_2 dX8_racks_65 ?_
    refine zz_iload_n K 1 dX8_racks_68 rfl rfl ?_
    obtain ⟨hin, h⟩ := h
    refine zz_iaload K 0 (wM_at_38 ad cy σ) rfl hin dX8_racks_69 ?_
    refine zz_iconst K dX8_racks_70 zci_1 ?_
    refine zz_isub K dX8_racks_71 ?_
    refine zz_i2l K dX8_racks_72 ?_
    refine zz_callSi1 K zz_nw_nil [.long (v2.toInt64), .long (0 : Int64), .long ((((σ).2.1 38 v1.toNatClampNeg) - (1 : Int32)).toInt64)] (zc8_in l D ad cy (v2.toInt64) (0 : Int64) ((((σ).2.1 38 v1.toNatClampNeg) - (1 : Int32)).toInt64) σ _ h) gX8_racks_X8_in rfl ⟨rfl, rfl⟩ zds_yX8_in_s ⟨Nat.le_of_ble_eq_true rfl, Nat.le_of_ble_eq_true rfl⟩ rfl rfl (Nat.le_of_ble_eq_true rfl) dX8_racks_73 (fun r33 h => ?_)
    refine zz_if_ne K 82 dX8_racks_76 rfl (fun c34 => ?_) (fun c34 => ?_)
    · have h := (And.left h) c34
      refine zz_iload_n K 3 dX8_racks_82 rfl rfl ?_
      refine zz_iconst K dX8_racks_83 zci_1 ?_
      refine zz_icmp_ne K 130 dX8_racks_84 rfl (fun c35 => ?_) (fun c35 => ?_)
      · have h := (And.left h) c35
        exact zu8_racks_130 K hret h
      · have h := (And.right h) c35
        refine zz_aload_n K 0 dX8_racks_87 rfl rfl ?_
        refine zg8_7 K zin_X8_racks_X8 zlk_X8_racks_3 dX8_racks_88 ?_
        refine zz_aload_n K 0 dX8_racks_91 rfl rfl ?_
        refine zg8_39 K zin_X8_racks_X8 zlk_X8_racks_4 dX8_racks_92 ?_
        refine zz_iload_n K 1 dX8_racks_95 rfl rfl ?_
        obtain ⟨hin, h⟩ := h
        refine zz_iaload K 0 (wM_at_39 ad cy σ) rfl hin dX8_racks_96 ?_
        refine zz_icmp_eq K 130 dX8_racks_97 rfl (fun c36 => ?_) (fun c36 => ?_)
        · have h := (And.left h) c36
          exact zu8_racks_130 K hret h
        · have h := (And.right h) c36
          refine zz_aload_n K 0 dX8_racks_100 rfl rfl ?_
          refine zg8_39 K zin_X8_racks_X8 zlk_X8_racks_4 dX8_racks_101 ?_
          refine zz_iload_n K 1 dX8_racks_104 rfl rfl ?_
          obtain ⟨hin, h⟩ := h
          refine zz_iaload K 0 (wM_at_39 ad cy σ) rfl hin dX8_racks_105 ?_
          refine zz_iconst K dX8_racks_106 zci_2 ?_
          refine zz_irem K (by decide : ¬ (2 : Int32) = 0) dX8_racks_107 ?_
          refine zz_iconst K dX8_racks_108 zci_1 ?_
          refine zz_icmp_eq K 127 dX8_racks_109 rfl (fun c37 => ?_) (fun c37 => ?_)
          · have h := (And.left h) c37
            refine zz_bipush K dX8_racks_127 zcb_m16 ?_
            exact hret _ _ rfl h _ _ dX8_racks_129
          · have h := (And.right h) c37
            refine zz_aload_n K 0 dX8_racks_112 rfl rfl ?_
            refine zg8_7 K zin_X8_racks_X8 zlk_X8_racks_3 dX8_racks_113 ?_
            refine zz_aload_n K 0 dX8_racks_116 rfl rfl ?_
            refine zg8_39 K zin_X8_racks_X8 zlk_X8_racks_4 dX8_racks_117 ?_
            refine zz_iload_n K 1 dX8_racks_120 rfl rfl ?_
            obtain ⟨hin, h⟩ := h
            refine zz_iaload K 0 (wM_at_39 ad cy σ) rfl hin dX8_racks_121 ?_
            refine zz_iconst K dX8_racks_122 zci_1 ?_
            refine zz_iadd K dX8_racks_123 ?_
            refine zz_icmp_eq K 130 dX8_racks_124 rfl (fun c38 => ?_) (fun c38 => ?_)
            · have h := (And.left h) c38
              exact zu8_racks_130 K hret h
            · have h := (And.right h) c38
              refine zz_bipush K dX8_racks_127 zcb_m16 ?_
              exact hret _ _ rfl h _ _ dX8_racks_129
    · have h := (And.right h) c34
      refine zz_bipush K dX8_racks_79 zcb_m13 ?_
      exact hret _ _ rfl h _ _ dX8_racks_81
  · have h := (And.right h) c32
    refine zz_bipush K dX8_racks_58 zcb_m11 ?_
    exact hret _ _ rfl h _ _ dX8_racks_60
set_option maxHeartbeats 4000000 in
set_option maxRecDepth 100000 in
theorem zu8_racks_0 {p : Program} {l : Launch} {e : Env} {s : State} {m : MethodId} {args : Array Value} {below : List Frame} {meth : Method} {c : Code} {Q : State → Prop} {D : va_G} {A : Nat → Prop} {ad : Nat → Nat} {cy : Nat → ClassId} {v1 : Int32} {v2 : Int32} {v3 : Int32} {σ : zz_St} (K : zz_K p s m args c cX8_racks 4 RX8 wsX8_racks D (tysM cy) A (wM ad cy) []) {Qp : Int32 → zz_St → Prop} (hret : ∀ (r : Int32) (σ2 : zz_St), narrow .int (.int r) = .int r → Qp r σ2 → ∀ (pc : Nat) (lv : List (Nat × Value)), decode cX8_racks pc = .ok (.ireturn, 1) → zz_G p l e zrm8_racks s m args below meth c Q D A (wM ad cy) 4 pc lv [.int r] σ2) (h : zq8_racks v1 v2 v3 σ Qp) : zz_G p l e zrm8_racks s m args below meth c Q D A (wM ad cy) 4 0 [(0, .ref (ad 0)), (1, .int v1), (2, .int v2), (3, .int v3)] [] σ := by
  unfold zq8_racks at h
  refine zz_iload_n K 1 dX8_racks_0 rfl rfl ?_
  refine zz_callSi1 K zz_nw_nil [.int v1] (zc8_isRack l D ad cy v1 σ _ h) gX8_racks_X8_isRack rfl ⟨rfl, rfl⟩ zds_yX8_isRack_s ⟨Nat.le_of_ble_eq_true rfl, Nat.le_of_ble_eq_true rfl⟩ rfl rfl (Nat.le_of_ble_eq_true rfl) dX8_racks_1 (fun r39 h => ?_)
  refine zz_if_ne K 13 dX8_racks_4 rfl (fun c40 => ?_) (fun c40 => ?_)
  · have h := (And.left h) c40
    refine zz_iload_n K 3 dX8_racks_13 rfl rfl ?_
    refine zz_i2l K dX8_racks_14 ?_
    refine zz_lconst K (v := (0 : Int64)) dX8_racks_15 rfl ?_
    refine zz_lconst K (v := (1 : Int64)) dX8_racks_16 rfl ?_
    refine zz_callSi1 K zz_nw_nil [.long (v3.toInt64), .long (0 : Int64), .long (1 : Int64)] (zc8_in l D ad cy (v3.toInt64) (0 : Int64) (1 : Int64) σ _ h) gX8_racks_X8_in rfl ⟨rfl, rfl⟩ zds_yX8_in_s ⟨Nat.le_of_ble_eq_true rfl, Nat.le_of_ble_eq_true rfl⟩ rfl rfl (Nat.le_of_ble_eq_true rfl) dX8_racks_17 (fun r41 h => ?_)
    refine zz_if_ne K 30 dX8_racks_20 rfl (fun c42 => ?_) (fun c42 => ?_)
    · have h := (And.left h) c42
      refine zz_iload_n K 3 dX8_racks_30 rfl rfl ?_
      refine zz_iconst K dX8_racks_31 zci_1 ?_
      refine zz_icmp_ne K 49 dX8_racks_32 rfl (fun c43 => ?_) (fun c43 => ?_)
      · have h := (And.left h) c43
        exact zu8_racks_49 K hret h
      · have h := (And.right h) c43
        refine zz_aload_n K 0 dX8_racks_35 rfl rfl ?_
        refine zg8_9 K zin_X8_racks_X8 zlk_X8_racks_1 dX8_racks_36 ?_
        refine zz_if_ne K 49 dX8_racks_39 rfl (fun c44 => ?_) (fun c44 => ?_)
        · have h := (And.left h) c44
          exact zu8_racks_49 K hret h
        · have h := (And.right h) c44
          refine zz_aload_n K 0 dX8_racks_42 rfl rfl ?_
          refine zz_bipush K dX8_racks_43 zcb_m3 ?_
          refine zz_callVi K zz_nw_nil [.int (-3 : Int32)] (zc8_no l D ad cy (-3 : Int32) σ _ h) gX8_racks_X8_no rfl ⟨rfl, rfl⟩ zds_yX8_no_v ⟨Nat.le_of_ble_eq_true rfl, Nat.le_of_ble_eq_true rfl⟩ (wM_at_0 ad cy _) rfl rfl rfl rfl (Nat.le_of_ble_eq_true rfl) dX8_racks_45 (fun r45 g46 h => ?_)
          exact hret _ _ rfl h _ _ dX8_racks_48
    · have h := (And.right h) c42
      refine zz_aload_n K 0 dX8_racks_23 rfl rfl ?_
      refine zz_bipush K dX8_racks_24 zcb_m2 ?_
      refine zz_callVi K zz_nw_nil [.int (-2 : Int32)] (zc8_no l D ad cy (-2 : Int32) σ _ h) gX8_racks_X8_no rfl ⟨rfl, rfl⟩ zds_yX8_no_v ⟨Nat.le_of_ble_eq_true rfl, Nat.le_of_ble_eq_true rfl⟩ (wM_at_0 ad cy _) rfl rfl rfl rfl (Nat.le_of_ble_eq_true rfl) dX8_racks_26 (fun r47 g48 h => ?_)
      exact hret _ _ rfl h _ _ dX8_racks_29
  · have h := (And.right h) c40
    refine zz_aload_n K 0 dX8_racks_7 rfl rfl ?_
    refine zz_iconst K dX8_racks_8 zci_m1 ?_
    refine zz_callVi K zz_nw_nil [.int (-1 : Int32)] (zc8_no l D ad cy (-1 : Int32) σ _ h) gX8_racks_X8_no rfl ⟨rfl, rfl⟩ zds_yX8_no_v ⟨Nat.le_of_ble_eq_true rfl, Nat.le_of_ble_eq_true rfl⟩ (wM_at_0 ad cy _) rfl rfl rfl rfl (Nat.le_of_ble_eq_true rfl) dX8_racks_9 (fun r49 g50 h => ?_)
    exact hret _ _ rfl h _ _ dX8_racks_12
set_option maxRecDepth 100000 in
theorem zc8_racks (l : Launch) (D : va_G) (ad : Nat → Nat) (cy : Nat → ClassId) (v1 : Int32) (v2 : Int32) (v3 : Int32) (σ : zz_St) (Qp : Int32 → zz_St → Prop) (h : zq8_racks v1 v2 v3 σ Qp) : zz_Mi l yX8_racks wsX8_racks zrm8_racks D (tysM cy) (wM ad cy) [] [.ref (ad 0), .int v1, .int v2, .int v3] σ Qp :=
  zz_Mi.of zz_nw_nil (wM_ad ad cy) (by decide +kernel) rfl ⟨rfl, rfl⟩ (Nat.le_of_ble_eq_true rfl) (fun p e s m args below meth c A QW K hret => zu8_racks_0 K  hret h)
theorem zin_X8_racked_X8 : ∀ w ∈ wsX80, w ∈ wsX8_racked := fun w h => List.mem_cons_of_mem _ (List.mem_append_right _ h)
theorem zlk_X8_racked_1 : Cond.fieldLink RX8 101 "SolidsRolledModel" "rackSizes" "[I" ∈ wsX8_racked := List.mem_of_getElem? (i := 1) rfl
theorem zlk_X8_racked_2 : Cond.fieldLink RX8 107 "SolidsRolledModel" "laidKinds" "[I" ∈ wsX8_racked := List.mem_of_getElem? (i := 2) rfl
theorem zlk_X8_racked_3 : Cond.fieldLink RX8 110 "SolidsRolledModel" "laidBelow" "[I" ∈ wsX8_racked := List.mem_of_getElem? (i := 3) rfl
abbrev zrm8_racked : Room := { frames := 2, cells := 0, slots := 0, locals := 45 }
set_option maxHeartbeats 4000000 in
set_option maxRecDepth 100000 in
theorem zu8_racked_0 {p : Program} {l : Launch} {e : Env} {s : State} {m : MethodId} {args : Array Value} {below : List Frame} {meth : Method} {c : Code} {Q : State → Prop} {D : va_G} {A : Nat → Prop} {ad : Nat → Nat} {cy : Nat → ClassId} {v1 : Int32} {v2 : Int32} {v3 : Int32} {σ : zz_St} (K : zz_K p s m args c cX8_racked 5 RX8 wsX8_racked D (tysM cy) A (wM ad cy) []) {Qp : Int32 → zz_St → Prop} (hret : ∀ (r : Int32) (σ2 : zz_St), narrow .int (.int r) = .int r → Qp r σ2 → ∀ (pc : Nat) (lv : List (Nat × Value)), decode cX8_racked pc = .ok (.ireturn, 1) → zz_G p l e zrm8_racked s m args below meth c Q D A (wM ad cy) 5 pc lv [.int r] σ2) (h : zq8_racked v1 v2 v3 σ Qp) : zz_G p l e zrm8_racked s m args below meth c Q D A (wM ad cy) 5 0 [(0, .ref (ad 0)), (1, .int v1), (2, .int v2), (3, .int v3)] [] σ := by
  unfold zq8_racked at h
  refine zz_iload_n K 1 dX8_racked_0 rfl rfl ?_
  refine zz_callSi1 K zz_nw_nil [.int v1] (zc8_isRack l D ad cy v1 σ _ h) gX8_racked_X8_isRack rfl ⟨rfl, rfl⟩ zds_yX8_isRack_s ⟨Nat.le_of_ble_eq_true rfl, Nat.le_of_ble_eq_true rfl⟩ rfl rfl (Nat.le_of_ble_eq_true rfl) dX8_racked_1 (fun r15 h => ?_)
  refine zz_if_ne K 13 dX8_racked_4 rfl (fun c16 => ?_) (fun c16 => ?_)
  · have h := (And.left h) c16
    refine zz_iload_n K 3 dX8_racked_13 rfl rfl ?_
    refine zz_i2l K dX8_racked_14 ?_
    refine zz_lconst K (v := (0 : Int64)) dX8_racked_15 rfl ?_
    refine zz_lconst K (v := (1 : Int64)) dX8_racked_16 rfl ?_
    refine zz_callSi1 K zz_nw_nil [.long (v3.toInt64), .long (0 : Int64), .long (1 : Int64)] (zc8_in l D ad cy (v3.toInt64) (0 : Int64) (1 : Int64) σ _ h) gX8_racked_X8_in rfl ⟨rfl, rfl⟩ zds_yX8_in_s ⟨Nat.le_of_ble_eq_true rfl, Nat.le_of_ble_eq_true rfl⟩ rfl rfl (Nat.le_of_ble_eq_true rfl) dX8_racked_17 (fun r17 h => ?_)
    refine zz_if_ne K 30 dX8_racked_20 rfl (fun c18 => ?_) (fun c18 => ?_)
    · have h := (And.left h) c18
      refine zz_aload_n K 0 dX8_racked_30 rfl rfl ?_
      refine zg8_38 K zin_X8_racked_X8 zlk_X8_racked_1 dX8_racked_31 ?_
      refine zz_iload_n K 1 dX8_racked_34 rfl rfl ?_
      obtain ⟨hin, h⟩ := h
      refine zz_iaload K 0 (wM_at_38 ad cy σ) rfl hin dX8_racked_35 ?_
      refine zz_if_ge K 42 dX8_racked_36 rfl (fun c19 => ?_) (fun c19 => ?_)
      · have h := (And.left h) c19
        refine zz_iload_n K 2 dX8_racked_42 rfl rfl ?_
        refine zz_i2l K dX8_racked_43 ?_
        refine zz_lconst K (v := (0 : Int64)) dX8_racked_44 rfl ?_
        refine zz_aload_n K 0 dX8_racked_45 rfl rfl ?_
        refine zg8_38 K zin_X8_racked_X8 zlk_X8_racked_1 dX8_racked_46 ?_
        refine zz_iload_n K 1 dX8_racked_49 rfl rfl ?_
        obtain ⟨hin, h⟩ := h
        refine zz_iaload K 0 (wM_at_38 ad cy σ) rfl hin dX8_racked_50 ?_
        refine zz_iconst K dX8_racked_51 zci_1 ?_
        refine zz_isub K dX8_racked_52 ?_
        refine zz_i2l K dX8_racked_53 ?_
        refine zz_callSi1 K zz_nw_nil [.long (v2.toInt64), .long (0 : Int64), .long ((((σ).2.1 38 v1.toNatClampNeg) - (1 : Int32)).toInt64)] (zc8_in l D ad cy (v2.toInt64) (0 : Int64) ((((σ).2.1 38 v1.toNatClampNeg) - (1 : Int32)).toInt64) σ _ h) gX8_racked_X8_in rfl ⟨rfl, rfl⟩ zds_yX8_in_s ⟨Nat.le_of_ble_eq_true rfl, Nat.le_of_ble_eq_true rfl⟩ rfl rfl (Nat.le_of_ble_eq_true rfl) dX8_racked_54 (fun r20 h => ?_)
        refine zz_if_ne K 63 dX8_racked_57 rfl (fun c21 => ?_) (fun c21 => ?_)
        · have h := (And.left h) c21
          refine zz_bipush K dX8_racked_63 zcb_9 ?_
          refine zz_iload_n K 1 dX8_racked_65 rfl rfl ?_
          refine zz_imul K dX8_racked_66 ?_
          refine zz_iload_n K 2 dX8_racked_67 rfl rfl ?_
          refine zz_iadd K dX8_racked_68 ?_
          refine zz_nmi (fun x22 ex22 => ?_)
          have h := h x22 ex22
          refine zz_istore K [(4, .int x22), (0, .ref (ad 0)), (1, .int v1), (2, .int v2), (3, .int v3)] dX8_racked_69 (by decide) rfl ?_
          refine zz_aload_n K 1 dX8_racked_71 rfl rfl ?_
          refine zg8_40 K zin_X8_racked_X8 zlk_X8_racked_2 dX8_racked_72 ?_
          refine zz_iload K 0 dX8_racked_75 rfl ?_
          obtain ⟨hin, h⟩ := h
          refine zz_iaload K 0 (wM_at_40 ad cy σ) rfl hin dX8_racked_77 ?_
          refine zz_if_ge K 86 dX8_racked_78 rfl (fun c23 => ?_) (fun c23 => ?_)
          · have h := (And.left h) c23
            refine zz_iload_n K 4 dX8_racked_86 rfl rfl ?_
            refine zz_if_ne K 100 dX8_racked_87 rfl (fun c24 => ?_) (fun c24 => ?_)
            · have h := (And.left h) c24
              refine zz_aload_n K 1 dX8_racked_100 rfl rfl ?_
              refine zg8_41 K zin_X8_racked_X8 zlk_X8_racked_3 dX8_racked_101 ?_
              refine zz_iload K 0 dX8_racked_104 rfl ?_
              obtain ⟨hin, h⟩ := h
              refine zz_iaload K 0 (wM_at_41 ad cy σ) rfl hin dX8_racked_106 ?_
              exact hret _ _ rfl h _ _ dX8_racked_107
            · have h := (And.right h) c24
              refine zz_aload_n K 1 dX8_racked_90 rfl rfl ?_
              refine zg8_40 K zin_X8_racked_X8 zlk_X8_racked_2 dX8_racked_91 ?_
              refine zz_iload K 0 dX8_racked_94 rfl ?_
              obtain ⟨hin, h⟩ := h
              refine zz_iaload K 0 (wM_at_40 ad cy σ) rfl hin dX8_racked_96 ?_
              refine zz_goto K 107 dX8_racked_97 rfl ?_
              exact hret _ _ rfl h _ _ dX8_racked_107
          · have h := (And.right h) c23
            refine zz_bipush K dX8_racked_81 zcb_m9 ?_
            refine zz_goto K 107 dX8_racked_83 rfl ?_
            exact hret _ _ rfl h _ _ dX8_racked_107
        · have h := (And.right h) c21
          refine zz_bipush K dX8_racked_60 zcb_m13 ?_
          exact hret _ _ rfl h _ _ dX8_racked_62
      · have h := (And.right h) c19
        refine zz_bipush K dX8_racked_39 zcb_m11 ?_
        exact hret _ _ rfl h _ _ dX8_racked_41
    · have h := (And.right h) c18
      refine zz_aload_n K 0 dX8_racked_23 rfl rfl ?_
      refine zz_bipush K dX8_racked_24 zcb_m2 ?_
      refine zz_callVi K zz_nw_nil [.int (-2 : Int32)] (zc8_no l D ad cy (-2 : Int32) σ _ h) gX8_racked_X8_no rfl ⟨rfl, rfl⟩ zds_yX8_no_v ⟨Nat.le_of_ble_eq_true rfl, Nat.le_of_ble_eq_true rfl⟩ (wM_at_0 ad cy _) rfl rfl rfl rfl (Nat.le_of_ble_eq_true rfl) dX8_racked_26 (fun r25 g26 h => ?_)
      exact hret _ _ rfl h _ _ dX8_racked_29
  · have h := (And.right h) c16
    refine zz_aload_n K 0 dX8_racked_7 rfl rfl ?_
    refine zz_iconst K dX8_racked_8 zci_m1 ?_
    refine zz_callVi K zz_nw_nil [.int (-1 : Int32)] (zc8_no l D ad cy (-1 : Int32) σ _ h) gX8_racked_X8_no rfl ⟨rfl, rfl⟩ zds_yX8_no_v ⟨Nat.le_of_ble_eq_true rfl, Nat.le_of_ble_eq_true rfl⟩ (wM_at_0 ad cy _) rfl rfl rfl rfl (Nat.le_of_ble_eq_true rfl) dX8_racked_9 (fun r27 g28 h => ?_)
    exact hret _ _ rfl h _ _ dX8_racked_12
set_option maxRecDepth 100000 in
theorem zc8_racked (l : Launch) (D : va_G) (ad : Nat → Nat) (cy : Nat → ClassId) (v1 : Int32) (v2 : Int32) (v3 : Int32) (σ : zz_St) (Qp : Int32 → zz_St → Prop) (h : zq8_racked v1 v2 v3 σ Qp) : zz_Mi l yX8_racked wsX8_racked zrm8_racked D (tysM cy) (wM ad cy) [] [.ref (ad 0), .int v1, .int v2, .int v3] σ Qp :=
  zz_Mi.of zz_nw_nil (wM_ad ad cy) (by decide +kernel) rfl ⟨rfl, rfl⟩ (Nat.le_of_ble_eq_true rfl) (fun p e s m args below meth c A QW K hret => zu8_racked_0 K  hret h)
theorem zin_X8_like_X8 : ∀ w ∈ wsX80, w ∈ wsX8_like := fun w h => List.mem_cons_of_mem _ (List.mem_append_right _ h)
theorem zlk_X8_like_1 : Cond.fieldLink RX8 101 "SolidsRolledModel" "rackSizes" "[I" ∈ wsX8_like := List.mem_of_getElem? (i := 1) rfl
theorem zlk_X8_like_2 : Cond.fieldLink RX8 104 "SolidsRolledModel" "rackKinds" "[I" ∈ wsX8_like := List.mem_of_getElem? (i := 2) rfl
theorem zlk_X8_like_3 : Cond.fieldLink RX8 107 "SolidsRolledModel" "laidKinds" "[I" ∈ wsX8_like := List.mem_of_getElem? (i := 3) rfl
theorem zlk_X8_like_4 : Cond.fieldLink RX8 110 "SolidsRolledModel" "laidBelow" "[I" ∈ wsX8_like := List.mem_of_getElem? (i := 4) rfl
abbrev zrm8_like : Room := { frames := 2, cells := 0, slots := 0, locals := 45 }
set_option maxHeartbeats 4000000 in
set_option maxRecDepth 100000 in
theorem zu8_like_14 {p : Program} {l : Launch} {e : Env} {s : State} {m : MethodId} {args : Array Value} {below : List Frame} {meth : Method} {c : Code} {Q : State → Prop} {D : va_G} {A : Nat → Prop} {ad : Nat → Nat} {cy : Nat → ClassId}  {σ : zz_St} (K : zz_K p s m args c cX8_like 4 RX8 wsX8_like D (tysM cy) A (wM ad cy) []) {Qp : Int32 → zz_St → Prop} (hret : ∀ (r : Int32) (σ2 : zz_St), narrow .int (.int r) = .int r → Qp r σ2 → ∀ (pc : Nat) (lv : List (Nat × Value)), decode cX8_like pc = .ok (.ireturn, 1) → zz_G p l e zrm8_like s m args below meth c Q D A (wM ad cy) 4 pc lv [.int r] σ2) (h : zq8_like_14 σ Qp) : zz_G p l e zrm8_like s m args below meth c Q D A (wM ad cy) 4 14 [(0, .ref (ad 0))] [] σ := by
  unfold zq8_like_14 at h
  refine zz_aload_n K 0 dX8_like_14 rfl rfl ?_
  refine zz_iconst K dX8_like_15 zci_m1 ?_
  refine zz_callVi K zz_nw_nil [.int (-1 : Int32)] (zc8_no l D ad cy (-1 : Int32) σ _ h) gX8_like_X8_no rfl ⟨rfl, rfl⟩ zds_yX8_no_v ⟨Nat.le_of_ble_eq_true rfl, Nat.le_of_ble_eq_true rfl⟩ (wM_at_0 ad cy _) rfl rfl rfl rfl (Nat.le_of_ble_eq_true rfl) dX8_like_16 (fun r13 g14 h => ?_)
  exact hret _ _ rfl h _ _ dX8_like_19
set_option maxHeartbeats 4000000 in
set_option maxRecDepth 100000 in
theorem zu8_like_58 {p : Program} {l : Launch} {e : Env} {s : State} {m : MethodId} {args : Array Value} {below : List Frame} {meth : Method} {c : Code} {Q : State → Prop} {D : va_G} {A : Nat → Prop} {ad : Nat → Nat} {cy : Nat → ClassId} {v1 : Int32} {v2 : Int32} {v3 : Int32} {σ : zz_St} (K : zz_K p s m args c cX8_like 4 RX8 wsX8_like D (tysM cy) A (wM ad cy) []) {Qp : Int32 → zz_St → Prop} (hret : ∀ (r : Int32) (σ2 : zz_St), narrow .int (.int r) = .int r → Qp r σ2 → ∀ (pc : Nat) (lv : List (Nat × Value)), decode cX8_like pc = .ok (.ireturn, 1) → zz_G p l e zrm8_like s m args below meth c Q D A (wM ad cy) 4 pc lv [.int r] σ2) (h : zq8_like_58 v1 v2 v3 σ Qp) : zz_G p l e zrm8_like s m args below meth c Q D A (wM ad cy) 4 58 [(0, .ref (ad 0)), (1, .int v1), (2, .int v2), (3, .int v3)] [] σ := by
  unfold zq8_like_58 at h
  obtain ⟨I58, M58, h0, hs⟩ := h
  have key : ∀ (n : Nat) (v3 : Int32) (σ : zz_St), M58 v3 σ < n → I58 v3 σ → zz_G p l e zrm8_like s m args below meth c Q D A (wM ad cy) 4 58 [(0, .ref (ad 0)), (1, .int v1), (2, .int v2), (3, .int v3)] [] σ := by
    intro n
    induction n with
    | zero => intro v3 σ hlt; exact absurd hlt (Nat.not_lt_zero _)
    | succ n ih =>
      intro v3 σ hlt hI
      have h := hs v3 σ hI
      have hB58 : ∀ (v3' : Int32) (σ' : zz_St), (fun v3' σ' => I58 v3' σ' ∧ M58 v3' σ' < M58 v3 σ) v3' σ' → zz_G p l e zrm8_like s m args below meth c Q D A (wM ad cy) 4 58 [(0, .ref (ad 0)), (1, .int v1), (2, .int v2), (3, .int v3')] [] σ' := fun v3' σ' hz => ih v3' σ' (Nat.lt_of_lt_of_le hz.2 (Nat.le_of_lt_succ hlt)) hz.1
      refine zz_iload_n K 3 dX8_like_58 rfl rfl ?_
      refine zz_bipush K dX8_like_59 zcb_9 ?_
      refine zz_icmp_ge K 114 dX8_like_61 rfl (fun c15 => ?_) (fun c15 => ?_)
      · have h := (And.left h) c15
        refine zz_aload_n K 0 dX8_like_114 rfl rfl ?_
        refine zg8_38 K zin_X8_like_X8 zlk_X8_like_1 dX8_like_115 ?_
        refine zz_iload_n K 1 dX8_like_118 rfl rfl ?_
        obtain ⟨hin, h⟩ := h
        refine zz_iaload K 0 (wM_at_38 ad cy σ) rfl hin dX8_like_119 ?_
        exact hret _ _ rfl h _ _ dX8_like_120
      · have h := (And.right h) c15
        refine zz_aload_n K 0 dX8_like_64 rfl rfl ?_
        refine zg8_40 K zin_X8_like_X8 zlk_X8_like_3 dX8_like_65 ?_
        refine zz_bipush K dX8_like_68 zcb_9 ?_
        refine zz_iload_n K 1 dX8_like_70 rfl rfl ?_
        refine zz_imul K dX8_like_71 ?_
        refine zz_iload_n K 3 dX8_like_72 rfl rfl ?_
        refine zz_iadd K dX8_like_73 ?_
        refine zz_aload_n K 0 dX8_like_74 rfl rfl ?_
        refine zg8_40 K zin_X8_like_X8 zlk_X8_like_3 dX8_like_75 ?_
        refine zz_bipush K dX8_like_78 zcb_9 ?_
        refine zz_iload_n K 2 dX8_like_80 rfl rfl ?_
        refine zz_imul K dX8_like_81 ?_
        refine zz_iload_n K 3 dX8_like_82 rfl rfl ?_
        refine zz_iadd K dX8_like_83 ?_
        obtain ⟨hin, h⟩ := h
        refine zz_iaload K 0 (wM_at_40 ad cy σ) rfl hin dX8_like_84 ?_
        obtain ⟨hin, h⟩ := h
        refine zz_iastore K 0 (σ2 := zz_A σ 40 (upd ((σ).2.1 40) (((9 : Int32) * v1) + v3).toNatClampNeg ((σ).2.1 40 (((9 : Int32) * v2) + v3).toNatClampNeg))) (wM_at_40 ad cy σ) (wM_set_40 ad cy σ _) rfl hin dX8_like_85 ?_
        refine zz_nms (fun g16 eg16 => ?_)
        have h := h g16 eg16
        refine zz_aload_n K 0 dX8_like_86 rfl rfl ?_
        refine zg8_41 K zin_X8_like_X8 zlk_X8_like_4 dX8_like_87 ?_
        refine zz_bipush K dX8_like_90 zcb_9 ?_
        refine zz_iload_n K 1 dX8_like_92 rfl rfl ?_
        refine zz_imul K dX8_like_93 ?_
        refine zz_iload_n K 3 dX8_like_94 rfl rfl ?_
        refine zz_iadd K dX8_like_95 ?_
        refine zz_aload_n K 0 dX8_like_96 rfl rfl ?_
        refine zg8_41 K zin_X8_like_X8 zlk_X8_like_4 dX8_like_97 ?_
        refine zz_bipush K dX8_like_100 zcb_9 ?_
        refine zz_iload_n K 2 dX8_like_102 rfl rfl ?_
        refine zz_imul K dX8_like_103 ?_
        refine zz_iload_n K 3 dX8_like_104 rfl rfl ?_
        refine zz_iadd K dX8_like_105 ?_
        obtain ⟨hin, h⟩ := h
        refine zz_iaload K 0 (wM_at_41 ad cy g16) rfl hin dX8_like_106 ?_
        obtain ⟨hin, h⟩ := h
        refine zz_iastore K 0 (σ2 := zz_A g16 41 (upd (g16.2.1 41) (((9 : Int32) * v1) + v3).toNatClampNeg (g16.2.1 41 (((9 : Int32) * v2) + v3).toNatClampNeg))) (wM_at_41 ad cy g16) (wM_set_41 ad cy g16 _) rfl hin dX8_like_107 ?_
        refine zz_nms (fun g17 eg17 => ?_)
        have h := h g17 eg17
        refine zz_iinc K 3 [(3, .int (v3 + (1 : Int32))), (0, .ref (ad 0)), (1, .int v1), (2, .int v2)] dX8_like_108 zci_1 rfl (by decide) rfl ?_
        refine zz_goto K 58 dX8_like_111 rfl ?_
        refine zz_sub [1, 2, 3, 0] [(0, .ref (ad 0)), (1, .int v1), (2, .int v2), (3, .int (v3 + (1 : Int32)))] rfl ?_
        exact hB58 (v3 + (1 : Int32)) g17 h
  exact key _ v3 σ (Nat.lt_succ_self _) h0
set_option maxHeartbeats 4000000 in
set_option maxRecDepth 100000 in
theorem zu8_like_0 {p : Program} {l : Launch} {e : Env} {s : State} {m : MethodId} {args : Array Value} {below : List Frame} {meth : Method} {c : Code} {Q : State → Prop} {D : va_G} {A : Nat → Prop} {ad : Nat → Nat} {cy : Nat → ClassId} {v1 : Int32} {v2 : Int32} {σ : zz_St} (K : zz_K p s m args c cX8_like 4 RX8 wsX8_like D (tysM cy) A (wM ad cy) []) {Qp : Int32 → zz_St → Prop} (hret : ∀ (r : Int32) (σ2 : zz_St), narrow .int (.int r) = .int r → Qp r σ2 → ∀ (pc : Nat) (lv : List (Nat × Value)), decode cX8_like pc = .ok (.ireturn, 1) → zz_G p l e zrm8_like s m args below meth c Q D A (wM ad cy) 4 pc lv [.int r] σ2) (h : zq8_like v1 v2 σ Qp) : zz_G p l e zrm8_like s m args below meth c Q D A (wM ad cy) 4 0 [(0, .ref (ad 0)), (1, .int v1), (2, .int v2)] [] σ := by
  unfold zq8_like at h
  refine zz_iload_n K 1 dX8_like_0 rfl rfl ?_
  refine zz_callSi1 K zz_nw_nil [.int v1] (zc8_isRack l D ad cy v1 σ _ h) gX8_like_X8_isRack rfl ⟨rfl, rfl⟩ zds_yX8_isRack_s ⟨Nat.le_of_ble_eq_true rfl, Nat.le_of_ble_eq_true rfl⟩ rfl rfl (Nat.le_of_ble_eq_true rfl) dX8_like_1 (fun r18 h => ?_)
  refine zz_if_eq K 14 dX8_like_4 rfl (fun c19 => ?_) (fun c19 => ?_)
  · have h := (And.left h) c19
    refine zz_sub [0] [(0, .ref (ad 0))] rfl ?_
    exact zu8_like_14 K hret h
  · have h := (And.right h) c19
    refine zz_iload_n K 2 dX8_like_7 rfl rfl ?_
    refine zz_callSi1 K zz_nw_nil [.int v2] (zc8_isRack l D ad cy v2 σ _ h) gX8_like_X8_isRack rfl ⟨rfl, rfl⟩ zds_yX8_isRack_s ⟨Nat.le_of_ble_eq_true rfl, Nat.le_of_ble_eq_true rfl⟩ rfl rfl (Nat.le_of_ble_eq_true rfl) dX8_like_8 (fun r20 h => ?_)
    refine zz_if_ne K 20 dX8_like_11 rfl (fun c21 => ?_) (fun c21 => ?_)
    · have h := (And.left h) c21
      refine zz_aload_n K 0 dX8_like_20 rfl rfl ?_
      refine zg8_38 K zin_X8_like_X8 zlk_X8_like_1 dX8_like_21 ?_
      refine zz_iload_n K 2 dX8_like_24 rfl rfl ?_
      obtain ⟨hin, h⟩ := h
      refine zz_iaload K 0 (wM_at_38 ad cy σ) rfl hin dX8_like_25 ?_
      refine zz_if_ge K 32 dX8_like_26 rfl (fun c22 => ?_) (fun c22 => ?_)
      · have h := (And.left h) c22
        refine zz_aload_n K 0 dX8_like_32 rfl rfl ?_
        refine zg8_38 K zin_X8_like_X8 zlk_X8_like_1 dX8_like_33 ?_
        refine zz_iload_n K 1 dX8_like_36 rfl rfl ?_
        refine zz_aload_n K 0 dX8_like_37 rfl rfl ?_
        refine zg8_38 K zin_X8_like_X8 zlk_X8_like_1 dX8_like_38 ?_
        refine zz_iload_n K 2 dX8_like_41 rfl rfl ?_
        obtain ⟨hin, h⟩ := h
        refine zz_iaload K 0 (wM_at_38 ad cy σ) rfl hin dX8_like_42 ?_
        obtain ⟨hin, h⟩ := h
        refine zz_iastore K 0 (σ2 := zz_A σ 38 (upd ((σ).2.1 38) v1.toNatClampNeg ((σ).2.1 38 v2.toNatClampNeg))) (wM_at_38 ad cy σ) (wM_set_38 ad cy σ _) rfl hin dX8_like_43 ?_
        refine zz_nms (fun g23 eg23 => ?_)
        have h := h g23 eg23
        refine zz_aload_n K 0 dX8_like_44 rfl rfl ?_
        refine zg8_39 K zin_X8_like_X8 zlk_X8_like_2 dX8_like_45 ?_
        refine zz_iload_n K 1 dX8_like_48 rfl rfl ?_
        refine zz_aload_n K 0 dX8_like_49 rfl rfl ?_
        refine zg8_39 K zin_X8_like_X8 zlk_X8_like_2 dX8_like_50 ?_
        refine zz_iload_n K 2 dX8_like_53 rfl rfl ?_
        obtain ⟨hin, h⟩ := h
        refine zz_iaload K 0 (wM_at_39 ad cy g23) rfl hin dX8_like_54 ?_
        obtain ⟨hin, h⟩ := h
        refine zz_iastore K 0 (σ2 := zz_A g23 39 (upd (g23.2.1 39) v1.toNatClampNeg (g23.2.1 39 v2.toNatClampNeg))) (wM_at_39 ad cy g23) (wM_set_39 ad cy g23 _) rfl hin dX8_like_55 ?_
        refine zz_nms (fun g24 eg24 => ?_)
        have h := h g24 eg24
        refine zz_iconst K dX8_like_56 zci_0 ?_
        refine zz_istore_n K [(3, .int (0 : Int32)), (0, .ref (ad 0)), (1, .int v1), (2, .int v2)] dX8_like_57 rfl (by decide) rfl ?_
        refine zz_sub [1, 2, 3, 0] [(0, .ref (ad 0)), (1, .int v1), (2, .int v2), (3, .int (0 : Int32))] rfl ?_
        exact zu8_like_58 K hret h
      · have h := (And.right h) c22
        refine zz_bipush K dX8_like_29 zcb_m11 ?_
        exact hret _ _ rfl h _ _ dX8_like_31
    · have h := (And.right h) c21
      refine zz_sub [0] [(0, .ref (ad 0))] rfl ?_
      exact zu8_like_14 K hret h
set_option maxRecDepth 100000 in
theorem zc8_like (l : Launch) (D : va_G) (ad : Nat → Nat) (cy : Nat → ClassId) (v1 : Int32) (v2 : Int32) (σ : zz_St) (Qp : Int32 → zz_St → Prop) (h : zq8_like v1 v2 σ Qp) : zz_Mi l yX8_like wsX8_like zrm8_like D (tysM cy) (wM ad cy) [] [.ref (ad 0), .int v1, .int v2] σ Qp :=
  zz_Mi.of zz_nw_nil (wM_ad ad cy) (by decide +kernel) rfl ⟨rfl, rfl⟩ (Nat.le_of_ble_eq_true rfl) (fun p e s m args below meth c A QW K hret => zu8_like_0 K  hret h)
theorem zin_X8_image_X8 : ∀ w ∈ wsX80, w ∈ wsX8_image := fun w h => List.mem_cons_of_mem _ (List.mem_append_right _ h)
theorem zlk_X8_image_1 : Cond.fieldLink RX8 321 "SolidsRolledModel" "hasImage" "Z" ∈ wsX8_image := List.mem_of_getElem? (i := 1) rfl
theorem zlk_X8_image_2 : Cond.fieldLink RX8 38 "SolidsRolledModel" "isThere" "Z" ∈ wsX8_image := List.mem_of_getElem? (i := 2) rfl
theorem zlk_X8_image_3 : Cond.fieldLink RX8 324 "SolidsRolledModel" "wasThere" "Z" ∈ wsX8_image := List.mem_of_getElem? (i := 3) rfl
theorem zlk_X8_image_4 : Cond.fieldLink RX8 113 "SolidsRolledModel" "imaged" "[I" ∈ wsX8_image := List.mem_of_getElem? (i := 4) rfl
theorem zlk_X8_image_5 : Cond.fieldLink RX8 23 "SolidsRolledModel" "rows" "I" ∈ wsX8_image := List.mem_of_getElem? (i := 5) rfl
theorem zlk_X8_image_6 : Cond.fieldLink RX8 26 "SolidsRolledModel" "columns" "I" ∈ wsX8_image := List.mem_of_getElem? (i := 6) rfl
theorem zlk_X8_image_7 : Cond.fieldLink RX8 133 "SolidsRolledModel" "kind" "I" ∈ wsX8_image := List.mem_of_getElem? (i := 7) rfl
theorem zlk_X8_image_8 : Cond.fieldLink RX8 147 "SolidsRolledModel" "place" "I" ∈ wsX8_image := List.mem_of_getElem? (i := 8) rfl
theorem zlk_X8_image_9 : Cond.fieldLink RX8 35 "SolidsRolledModel" "ink" "I" ∈ wsX8_image := List.mem_of_getElem? (i := 9) rfl
theorem zlk_X8_image_10 : Cond.fieldLink RX8 116 "SolidsRolledModel" "imageFaces" "[I" ∈ wsX8_image := List.mem_of_getElem? (i := 10) rfl
theorem zlk_X8_image_11 : Cond.fieldLink RX8 42 "SolidsRolledModel" "faces" "[I" ∈ wsX8_image := List.mem_of_getElem? (i := 11) rfl
theorem zlk_X8_image_12 : Cond.fieldLink RX8 119 "SolidsRolledModel" "imageTiles" "[I" ∈ wsX8_image := List.mem_of_getElem? (i := 12) rfl
theorem zlk_X8_image_13 : Cond.fieldLink RX8 29 "SolidsRolledModel" "tiles" "[I" ∈ wsX8_image := List.mem_of_getElem? (i := 13) rfl
theorem zlk_X8_image_14 : Cond.fieldLink RX8 122 "SolidsRolledModel" "imagePrints" "[I" ∈ wsX8_image := List.mem_of_getElem? (i := 14) rfl
theorem zlk_X8_image_15 : Cond.fieldLink RX8 32 "SolidsRolledModel" "prints" "[I" ∈ wsX8_image := List.mem_of_getElem? (i := 15) rfl
abbrev zrm8_image : Room := { frames := 0, cells := 0, slots := 0, locals := 0 }
set_option maxHeartbeats 4000000 in
set_option maxRecDepth 100000 in
theorem zu8_image_91 {p : Program} {l : Launch} {e : Env} {s : State} {m : MethodId} {args : Array Value} {below : List Frame} {meth : Method} {c : Code} {Q : State → Prop} {D : va_G} {A : Nat → Prop} {ad : Nat → Nat} {cy : Nat → ClassId} {v1 : Int32} {σ : zz_St} (K : zz_K p s m args c cX8_image 2 RX8 wsX8_image D (tysM cy) A (wM ad cy) []) {Qp : Int32 → zz_St → Prop} (hret : ∀ (r : Int32) (σ2 : zz_St), narrow .int (.int r) = .int r → Qp r σ2 → ∀ (pc : Nat) (lv : List (Nat × Value)), decode cX8_image pc = .ok (.ireturn, 1) → zz_G p l e zrm8_image s m args below meth c Q D A (wM ad cy) 2 pc lv [.int r] σ2) (h : zq8_image_91 v1 σ Qp) : zz_G p l e zrm8_image s m args below meth c Q D A (wM ad cy) 2 91 [(0, .ref (ad 0)), (1, .int v1)] [] σ := by
  unfold zq8_image_91 at h
  obtain ⟨I91, M91, h0, hs⟩ := h
  have key : ∀ (n : Nat) (v1 : Int32) (σ : zz_St), M91 v1 σ < n → I91 v1 σ → zz_G p l e zrm8_image s m args below meth c Q D A (wM ad cy) 2 91 [(0, .ref (ad 0)), (1, .int v1)] [] σ := by
    intro n
    induction n with
    | zero => intro v1 σ hlt; exact absurd hlt (Nat.not_lt_zero _)
    | succ n ih =>
      intro v1 σ hlt hI
      have h := hs v1 σ hI
      have hB91 : ∀ (v1' : Int32) (σ' : zz_St), (fun v1' σ' => I91 v1' σ' ∧ M91 v1' σ' < M91 v1 σ) v1' σ' → zz_G p l e zrm8_image s m args below meth c Q D A (wM ad cy) 2 91 [(0, .ref (ad 0)), (1, .int v1')] [] σ' := fun v1' σ' hz => ih v1' σ' (Nat.lt_of_lt_of_le hz.2 (Nat.le_of_lt_succ hlt)) hz.1
      refine zz_iload_n K 1 dX8_image_91 rfl rfl ?_
      refine zz_bipush K dX8_image_92 zcb_36 ?_
      refine zz_icmp_ge K 127 dX8_image_94 rfl (fun c14 => ?_) (fun c14 => ?_)
      · have h := (And.left h) c14
        refine zz_aload_n K 0 dX8_image_127 rfl rfl ?_
        refine zg8_9 K zin_X8_image_X8 zlk_X8_image_2 dX8_image_128 ?_
        refine zz_if_eq K 141 dX8_image_131 rfl (fun c15 => ?_) (fun c15 => ?_)
        · have h := (And.left h) c15
          refine zz_bipush K dX8_image_141 zcb_m9 ?_
          exact hret _ _ rfl h _ _ dX8_image_143
        · have h := (And.right h) c15
          refine zz_aload_n K 0 dX8_image_134 rfl rfl ?_
          refine zg8_8 K zin_X8_image_X8 zlk_X8_image_8 dX8_image_135 ?_
          refine zz_goto K 143 dX8_image_138 rfl ?_
          exact hret _ _ rfl h _ _ dX8_image_143
      · have h := (And.right h) c14
        refine zz_aload_n K 0 dX8_image_97 rfl rfl ?_
        refine zg8_46 K zin_X8_image_X8 zlk_X8_image_12 dX8_image_98 ?_
        refine zz_iload_n K 1 dX8_image_101 rfl rfl ?_
        refine zz_aload_n K 0 dX8_image_102 rfl rfl ?_
        refine zg8_4 K zin_X8_image_X8 zlk_X8_image_13 dX8_image_103 ?_
        refine zz_iload_n K 1 dX8_image_106 rfl rfl ?_
        obtain ⟨hin, h⟩ := h
        refine zz_iaload K 0 (wM_at_4 ad cy σ) rfl hin dX8_image_107 ?_
        obtain ⟨hin, h⟩ := h
        refine zz_iastore K 0 (σ2 := zz_A σ 46 (upd ((σ).2.1 46) v1.toNatClampNeg ((σ).2.1 4 v1.toNatClampNeg))) (wM_at_46 ad cy σ) (wM_set_46 ad cy σ _) rfl hin dX8_image_108 ?_
        refine zz_nms (fun g16 eg16 => ?_)
        have h := h g16 eg16
        refine zz_aload_n K 0 dX8_image_109 rfl rfl ?_
        refine zg8_47 K zin_X8_image_X8 zlk_X8_image_14 dX8_image_110 ?_
        refine zz_iload_n K 1 dX8_image_113 rfl rfl ?_
        refine zz_aload_n K 0 dX8_image_114 rfl rfl ?_
        refine zg8_5 K zin_X8_image_X8 zlk_X8_image_15 dX8_image_115 ?_
        refine zz_iload_n K 1 dX8_image_118 rfl rfl ?_
        obtain ⟨hin, h⟩ := h
        refine zz_iaload K 0 (wM_at_5 ad cy g16) rfl hin dX8_image_119 ?_
        obtain ⟨hin, h⟩ := h
        refine zz_iastore K 0 (σ2 := zz_A g16 47 (upd (g16.2.1 47) v1.toNatClampNeg (g16.2.1 5 v1.toNatClampNeg))) (wM_at_47 ad cy g16) (wM_set_47 ad cy g16 _) rfl hin dX8_image_120 ?_
        refine zz_nms (fun g17 eg17 => ?_)
        have h := h g17 eg17
        refine zz_iinc K 1 [(1, .int (v1 + (1 : Int32))), (0, .ref (ad 0))] dX8_image_121 zci_1 rfl (by decide) rfl ?_
        refine zz_goto K 91 dX8_image_124 rfl ?_
        refine zz_sub [1, 0] [(0, .ref (ad 0)), (1, .int (v1 + (1 : Int32)))] rfl ?_
        exact hB91 (v1 + (1 : Int32)) g17 h
  exact key _ v1 σ (Nat.lt_succ_self _) h0
set_option maxHeartbeats 4000000 in
set_option maxRecDepth 100000 in
theorem zu8_image_65 {p : Program} {l : Launch} {e : Env} {s : State} {m : MethodId} {args : Array Value} {below : List Frame} {meth : Method} {c : Code} {Q : State → Prop} {D : va_G} {A : Nat → Prop} {ad : Nat → Nat} {cy : Nat → ClassId} {v1 : Int32} {σ : zz_St} (K : zz_K p s m args c cX8_image 2 RX8 wsX8_image D (tysM cy) A (wM ad cy) []) {Qp : Int32 → zz_St → Prop} (hret : ∀ (r : Int32) (σ2 : zz_St), narrow .int (.int r) = .int r → Qp r σ2 → ∀ (pc : Nat) (lv : List (Nat × Value)), decode cX8_image pc = .ok (.ireturn, 1) → zz_G p l e zrm8_image s m args below meth c Q D A (wM ad cy) 2 pc lv [.int r] σ2) (h : zq8_image_65 v1 σ Qp) : zz_G p l e zrm8_image s m args below meth c Q D A (wM ad cy) 2 65 [(0, .ref (ad 0)), (1, .int v1)] [] σ := by
  unfold zq8_image_65 at h
  obtain ⟨I65, M65, h0, hs⟩ := h
  have key : ∀ (n : Nat) (v1 : Int32) (σ : zz_St), M65 v1 σ < n → I65 v1 σ → zz_G p l e zrm8_image s m args below meth c Q D A (wM ad cy) 2 65 [(0, .ref (ad 0)), (1, .int v1)] [] σ := by
    intro n
    induction n with
    | zero => intro v1 σ hlt; exact absurd hlt (Nat.not_lt_zero _)
    | succ n ih =>
      intro v1 σ hlt hI
      have h := hs v1 σ hI
      have hB65 : ∀ (v1' : Int32) (σ' : zz_St), (fun v1' σ' => I65 v1' σ' ∧ M65 v1' σ' < M65 v1 σ) v1' σ' → zz_G p l e zrm8_image s m args below meth c Q D A (wM ad cy) 2 65 [(0, .ref (ad 0)), (1, .int v1')] [] σ' := fun v1' σ' hz => ih v1' σ' (Nat.lt_of_lt_of_le hz.2 (Nat.le_of_lt_succ hlt)) hz.1
      refine zz_iload_n K 1 dX8_image_65 rfl rfl ?_
      refine zz_bipush K dX8_image_66 zcb_6 ?_
      refine zz_icmp_ge K 89 dX8_image_68 rfl (fun c18 => ?_) (fun c18 => ?_)
      · have h := (And.left h) c18
        refine zz_iconst K dX8_image_89 zci_0 ?_
        refine zz_istore_n K [(1, .int (0 : Int32)), (0, .ref (ad 0))] dX8_image_90 rfl (by decide) rfl ?_
        refine zz_sub [1, 0] [(0, .ref (ad 0)), (1, .int (0 : Int32))] rfl ?_
        exact zu8_image_91 K hret h
      · have h := (And.right h) c18
        refine zz_aload_n K 0 dX8_image_71 rfl rfl ?_
        refine zg8_45 K zin_X8_image_X8 zlk_X8_image_10 dX8_image_72 ?_
        refine zz_iload_n K 1 dX8_image_75 rfl rfl ?_
        refine zz_aload_n K 0 dX8_image_76 rfl rfl ?_
        refine zg8_10 K zin_X8_image_X8 zlk_X8_image_11 dX8_image_77 ?_
        refine zz_iload_n K 1 dX8_image_80 rfl rfl ?_
        obtain ⟨hin, h⟩ := h
        refine zz_iaload K 0 (wM_at_10 ad cy σ) rfl hin dX8_image_81 ?_
        obtain ⟨hin, h⟩ := h
        refine zz_iastore K 0 (σ2 := zz_A σ 45 (upd ((σ).2.1 45) v1.toNatClampNeg ((σ).2.1 10 v1.toNatClampNeg))) (wM_at_45 ad cy σ) (wM_set_45 ad cy σ _) rfl hin dX8_image_82 ?_
        refine zz_nms (fun g19 eg19 => ?_)
        have h := h g19 eg19
        refine zz_iinc K 1 [(1, .int (v1 + (1 : Int32))), (0, .ref (ad 0))] dX8_image_83 zci_1 rfl (by decide) rfl ?_
        refine zz_goto K 65 dX8_image_86 rfl ?_
        refine zz_sub [1, 0] [(0, .ref (ad 0)), (1, .int (v1 + (1 : Int32)))] rfl ?_
        exact hB65 (v1 + (1 : Int32)) g19 h
  exact key _ v1 σ (Nat.lt_succ_self _) h0
set_option maxHeartbeats 4000000 in
set_option maxRecDepth 100000 in
theorem zu8_image_0 {p : Program} {l : Launch} {e : Env} {s : State} {m : MethodId} {args : Array Value} {below : List Frame} {meth : Method} {c : Code} {Q : State → Prop} {D : va_G} {A : Nat → Prop} {ad : Nat → Nat} {cy : Nat → ClassId}  {σ : zz_St} (K : zz_K p s m args c cX8_image 2 RX8 wsX8_image D (tysM cy) A (wM ad cy) []) {Qp : Int32 → zz_St → Prop} (hret : ∀ (r : Int32) (σ2 : zz_St), narrow .int (.int r) = .int r → Qp r σ2 → ∀ (pc : Nat) (lv : List (Nat × Value)), decode cX8_image pc = .ok (.ireturn, 1) → zz_G p l e zrm8_image s m args below meth c Q D A (wM ad cy) 2 pc lv [.int r] σ2) (h : zq8_image σ Qp) : zz_G p l e zrm8_image s m args below meth c Q D A (wM ad cy) 2 0 [(0, .ref (ad 0))] [] σ := by
  unfold zq8_image at h
  refine zz_aload_n K 0 dX8_image_0 rfl rfl ?_
  refine zz_iconst K dX8_image_1 zci_1 ?_
  refine zp8_42 K zin_X8_image_X8 zlk_X8_image_1 (Or.inr rfl) dX8_image_2 ?_
  refine zz_nms (fun g20 eg20 => ?_)
  have h := h g20 eg20
  refine zz_aload_n K 0 dX8_image_5 rfl rfl ?_
  refine zz_aload_n K 0 dX8_image_6 rfl rfl ?_
  refine zg8_9 K zin_X8_image_X8 zlk_X8_image_2 dX8_image_7 ?_
  obtain ⟨hb, h⟩ := h
  refine zp8_43 K zin_X8_image_X8 zlk_X8_image_3 hb dX8_image_10 ?_
  refine zz_nms (fun g21 eg21 => ?_)
  have h := h g21 eg21
  refine zz_aload_n K 0 dX8_image_13 rfl rfl ?_
  refine zg8_44 K zin_X8_image_X8 zlk_X8_image_4 dX8_image_14 ?_
  refine zz_iconst K dX8_image_17 zci_0 ?_
  refine zz_aload_n K 0 dX8_image_18 rfl rfl ?_
  refine zg8_2 K zin_X8_image_X8 zlk_X8_image_5 dX8_image_19 ?_
  obtain ⟨hin, h⟩ := h
  refine zz_iastore K 0 (σ2 := zz_A g21 44 (upd (g21.2.1 44) (0 : Int32).toNatClampNeg (g21.1 2))) (wM_at_44 ad cy g21) (wM_set_44 ad cy g21 _) rfl hin dX8_image_22 ?_
  refine zz_nms (fun g22 eg22 => ?_)
  have h := h g22 eg22
  refine zz_aload_n K 0 dX8_image_23 rfl rfl ?_
  refine zg8_44 K zin_X8_image_X8 zlk_X8_image_4 dX8_image_24 ?_
  refine zz_iconst K dX8_image_27 zci_1 ?_
  refine zz_aload_n K 0 dX8_image_28 rfl rfl ?_
  refine zg8_3 K zin_X8_image_X8 zlk_X8_image_6 dX8_image_29 ?_
  obtain ⟨hin, h⟩ := h
  refine zz_iastore K 0 (σ2 := zz_A g22 44 (upd (g22.2.1 44) (1 : Int32).toNatClampNeg (g22.1 3))) (wM_at_44 ad cy g22) (wM_set_44 ad cy g22 _) rfl hin dX8_image_32 ?_
  refine zz_nms (fun g23 eg23 => ?_)
  have h := h g23 eg23
  refine zz_aload_n K 0 dX8_image_33 rfl rfl ?_
  refine zg8_44 K zin_X8_image_X8 zlk_X8_image_4 dX8_image_34 ?_
  refine zz_iconst K dX8_image_37 zci_2 ?_
  refine zz_aload_n K 0 dX8_image_38 rfl rfl ?_
  refine zg8_7 K zin_X8_image_X8 zlk_X8_image_7 dX8_image_39 ?_
  obtain ⟨hin, h⟩ := h
  refine zz_iastore K 0 (σ2 := zz_A g23 44 (upd (g23.2.1 44) (2 : Int32).toNatClampNeg (g23.1 7))) (wM_at_44 ad cy g23) (wM_set_44 ad cy g23 _) rfl hin dX8_image_42 ?_
  refine zz_nms (fun g24 eg24 => ?_)
  have h := h g24 eg24
  refine zz_aload_n K 0 dX8_image_43 rfl rfl ?_
  refine zg8_44 K zin_X8_image_X8 zlk_X8_image_4 dX8_image_44 ?_
  refine zz_iconst K dX8_image_47 zci_3 ?_
  refine zz_aload_n K 0 dX8_image_48 rfl rfl ?_
  refine zg8_8 K zin_X8_image_X8 zlk_X8_image_8 dX8_image_49 ?_
  obtain ⟨hin, h⟩ := h
  refine zz_iastore K 0 (σ2 := zz_A g24 44 (upd (g24.2.1 44) (3 : Int32).toNatClampNeg (g24.1 8))) (wM_at_44 ad cy g24) (wM_set_44 ad cy g24 _) rfl hin dX8_image_52 ?_
  refine zz_nms (fun g25 eg25 => ?_)
  have h := h g25 eg25
  refine zz_aload_n K 0 dX8_image_53 rfl rfl ?_
  refine zg8_44 K zin_X8_image_X8 zlk_X8_image_4 dX8_image_54 ?_
  refine zz_iconst K dX8_image_57 zci_4 ?_
  refine zz_aload_n K 0 dX8_image_58 rfl rfl ?_
  refine zg8_6 K zin_X8_image_X8 zlk_X8_image_9 dX8_image_59 ?_
  obtain ⟨hin, h⟩ := h
  refine zz_iastore K 0 (σ2 := zz_A g25 44 (upd (g25.2.1 44) (4 : Int32).toNatClampNeg (g25.1 6))) (wM_at_44 ad cy g25) (wM_set_44 ad cy g25 _) rfl hin dX8_image_62 ?_
  refine zz_nms (fun g26 eg26 => ?_)
  have h := h g26 eg26
  refine zz_iconst K dX8_image_63 zci_0 ?_
  refine zz_istore_n K [(1, .int (0 : Int32)), (0, .ref (ad 0))] dX8_image_64 rfl (by decide) rfl ?_
  refine zz_sub [1, 0] [(0, .ref (ad 0)), (1, .int (0 : Int32))] rfl ?_
  exact zu8_image_65 K hret h
set_option maxRecDepth 100000 in
theorem zc8_image (l : Launch) (D : va_G) (ad : Nat → Nat) (cy : Nat → ClassId)  (σ : zz_St) (Qp : Int32 → zz_St → Prop) (h : zq8_image σ Qp) : zz_Mi l yX8_image wsX8_image zrm8_image D (tysM cy) (wM ad cy) [] [.ref (ad 0)] σ Qp :=
  zz_Mi.of zz_nw_nil (wM_ad ad cy) (by decide +kernel) rfl ⟨rfl, rfl⟩ (Nat.le_of_ble_eq_true rfl) (fun p e s m args below meth c A QW K hret => zu8_image_0 K  hret h)
theorem zin_X8_on_X8 : ∀ w ∈ wsX80, w ∈ wsX8_on := fun w h => List.mem_cons_of_mem _ (List.mem_append_right _ h)
theorem zlk_X8_on_1 : Cond.fieldLink RX8 321 "SolidsRolledModel" "hasImage" "Z" ∈ wsX8_on := List.mem_of_getElem? (i := 1) rfl
theorem zlk_X8_on_2 : Cond.fieldLink RX8 324 "SolidsRolledModel" "wasThere" "Z" ∈ wsX8_on := List.mem_of_getElem? (i := 2) rfl
theorem zlk_X8_on_3 : Cond.fieldLink RX8 38 "SolidsRolledModel" "isThere" "Z" ∈ wsX8_on := List.mem_of_getElem? (i := 3) rfl
theorem zlk_X8_on_4 : Cond.fieldLink RX8 113 "SolidsRolledModel" "imaged" "[I" ∈ wsX8_on := List.mem_of_getElem? (i := 4) rfl
theorem zlk_X8_on_5 : Cond.fieldLink RX8 23 "SolidsRolledModel" "rows" "I" ∈ wsX8_on := List.mem_of_getElem? (i := 5) rfl
theorem zlk_X8_on_6 : Cond.fieldLink RX8 26 "SolidsRolledModel" "columns" "I" ∈ wsX8_on := List.mem_of_getElem? (i := 6) rfl
theorem zlk_X8_on_7 : Cond.fieldLink RX8 133 "SolidsRolledModel" "kind" "I" ∈ wsX8_on := List.mem_of_getElem? (i := 7) rfl
theorem zlk_X8_on_8 : Cond.fieldLink RX8 147 "SolidsRolledModel" "place" "I" ∈ wsX8_on := List.mem_of_getElem? (i := 8) rfl
theorem zlk_X8_on_9 : Cond.fieldLink RX8 35 "SolidsRolledModel" "ink" "I" ∈ wsX8_on := List.mem_of_getElem? (i := 9) rfl
theorem zlk_X8_on_10 : Cond.fieldLink RX8 42 "SolidsRolledModel" "faces" "[I" ∈ wsX8_on := List.mem_of_getElem? (i := 10) rfl
theorem zlk_X8_on_11 : Cond.fieldLink RX8 116 "SolidsRolledModel" "imageFaces" "[I" ∈ wsX8_on := List.mem_of_getElem? (i := 11) rfl
theorem zlk_X8_on_16 : Cond.fieldLink RX8 198 "SolidsRolledModel" "done" "I" ∈ wsX8_on := List.mem_of_getElem? (i := 16) rfl
theorem zlk_X8_on_12 : Cond.fieldLink RX8 29 "SolidsRolledModel" "tiles" "[I" ∈ wsX8_on := List.mem_of_getElem? (i := 12) rfl
theorem zlk_X8_on_13 : Cond.fieldLink RX8 119 "SolidsRolledModel" "imageTiles" "[I" ∈ wsX8_on := List.mem_of_getElem? (i := 13) rfl
theorem zlk_X8_on_14 : Cond.fieldLink RX8 32 "SolidsRolledModel" "prints" "[I" ∈ wsX8_on := List.mem_of_getElem? (i := 14) rfl
theorem zlk_X8_on_15 : Cond.fieldLink RX8 122 "SolidsRolledModel" "imagePrints" "[I" ∈ wsX8_on := List.mem_of_getElem? (i := 15) rfl
abbrev zrm8_on : Room := { frames := 1, cells := 0, slots := 0, locals := 21 }
set_option maxHeartbeats 4000000 in
set_option maxRecDepth 100000 in
theorem zu8_on_100 {p : Program} {l : Launch} {e : Env} {s : State} {m : MethodId} {args : Array Value} {below : List Frame} {meth : Method} {c : Code} {Q : State → Prop} {D : va_G} {A : Nat → Prop} {ad : Nat → Nat} {cy : Nat → ClassId} {v1 : Int32} {σ : zz_St} (K : zz_K p s m args c cX8_on 2 RX8 wsX8_on D (tysM cy) A (wM ad cy) []) {Qp : Int32 → zz_St → Prop} (hret : ∀ (r : Int32) (σ2 : zz_St), narrow .int (.int r) = .int r → Qp r σ2 → ∀ (pc : Nat) (lv : List (Nat × Value)), decode cX8_on pc = .ok (.ireturn, 1) → zz_G p l e zrm8_on s m args below meth c Q D A (wM ad cy) 2 pc lv [.int r] σ2) (h : zq8_on_100 v1 σ Qp) : zz_G p l e zrm8_on s m args below meth c Q D A (wM ad cy) 2 100 [(0, .ref (ad 0)), (1, .int v1)] [] σ := by
  unfold zq8_on_100 at h
  obtain ⟨I100, M100, h0, hs⟩ := h
  have key : ∀ (n : Nat) (v1 : Int32) (σ : zz_St), M100 v1 σ < n → I100 v1 σ → zz_G p l e zrm8_on s m args below meth c Q D A (wM ad cy) 2 100 [(0, .ref (ad 0)), (1, .int v1)] [] σ := by
    intro n
    induction n with
    | zero => intro v1 σ hlt; exact absurd hlt (Nat.not_lt_zero _)
    | succ n ih =>
      intro v1 σ hlt hI
      have h := hs v1 σ hI
      have hB100 : ∀ (v1' : Int32) (σ' : zz_St), (fun v1' σ' => I100 v1' σ' ∧ M100 v1' σ' < M100 v1 σ) v1' σ' → zz_G p l e zrm8_on s m args below meth c Q D A (wM ad cy) 2 100 [(0, .ref (ad 0)), (1, .int v1')] [] σ' := fun v1' σ' hz => ih v1' σ' (Nat.lt_of_lt_of_le hz.2 (Nat.le_of_lt_succ hlt)) hz.1
      refine zz_iload_n K 1 dX8_on_100 rfl rfl ?_
      refine zz_bipush K dX8_on_101 zcb_36 ?_
      refine zz_icmp_ge K 136 dX8_on_103 rfl (fun c17 => ?_) (fun c17 => ?_)
      · have h := (And.left h) c17
        refine zz_aload_n K 0 dX8_on_136 rfl rfl ?_
        refine zz_iconst K dX8_on_137 zci_0 ?_
        refine zp8_19 K zin_X8_on_X8 zlk_X8_on_16 dX8_on_138 ?_
        refine zz_nms (fun g18 eg18 => ?_)
        have h := h g18 eg18
        refine zz_aload_n K 0 dX8_on_141 rfl rfl ?_
        refine zg8_9 K zin_X8_on_X8 zlk_X8_on_3 dX8_on_142 ?_
        refine zz_if_eq K 155 dX8_on_145 rfl (fun c19 => ?_) (fun c19 => ?_)
        · have h := (And.left h) c19
          refine zz_bipush K dX8_on_155 zcb_m9 ?_
          exact hret _ _ rfl h _ _ dX8_on_157
        · have h := (And.right h) c19
          refine zz_aload_n K 0 dX8_on_148 rfl rfl ?_
          refine zg8_8 K zin_X8_on_X8 zlk_X8_on_8 dX8_on_149 ?_
          refine zz_goto K 157 dX8_on_152 rfl ?_
          exact hret _ _ rfl h _ _ dX8_on_157
      · have h := (And.right h) c17
        refine zz_aload_n K 0 dX8_on_106 rfl rfl ?_
        refine zg8_4 K zin_X8_on_X8 zlk_X8_on_12 dX8_on_107 ?_
        refine zz_iload_n K 1 dX8_on_110 rfl rfl ?_
        refine zz_aload_n K 0 dX8_on_111 rfl rfl ?_
        refine zg8_46 K zin_X8_on_X8 zlk_X8_on_13 dX8_on_112 ?_
        refine zz_iload_n K 1 dX8_on_115 rfl rfl ?_
        obtain ⟨hin, h⟩ := h
        refine zz_iaload K 0 (wM_at_46 ad cy σ) rfl hin dX8_on_116 ?_
        obtain ⟨hin, h⟩ := h
        refine zz_iastore K 0 (σ2 := zz_A σ 4 (upd ((σ).2.1 4) v1.toNatClampNeg ((σ).2.1 46 v1.toNatClampNeg))) (wM_at_4 ad cy σ) (wM_set_4 ad cy σ _) rfl hin dX8_on_117 ?_
        refine zz_nms (fun g20 eg20 => ?_)
        have h := h g20 eg20
        refine zz_aload_n K 0 dX8_on_118 rfl rfl ?_
        refine zg8_5 K zin_X8_on_X8 zlk_X8_on_14 dX8_on_119 ?_
        refine zz_iload_n K 1 dX8_on_122 rfl rfl ?_
        refine zz_aload_n K 0 dX8_on_123 rfl rfl ?_
        refine zg8_47 K zin_X8_on_X8 zlk_X8_on_15 dX8_on_124 ?_
        refine zz_iload_n K 1 dX8_on_127 rfl rfl ?_
        obtain ⟨hin, h⟩ := h
        refine zz_iaload K 0 (wM_at_47 ad cy g20) rfl hin dX8_on_128 ?_
        obtain ⟨hin, h⟩ := h
        refine zz_iastore K 0 (σ2 := zz_A g20 5 (upd (g20.2.1 5) v1.toNatClampNeg (g20.2.1 47 v1.toNatClampNeg))) (wM_at_5 ad cy g20) (wM_set_5 ad cy g20 _) rfl hin dX8_on_129 ?_
        refine zz_nms (fun g21 eg21 => ?_)
        have h := h g21 eg21
        refine zz_iinc K 1 [(1, .int (v1 + (1 : Int32))), (0, .ref (ad 0))] dX8_on_130 zci_1 rfl (by decide) rfl ?_
        refine zz_goto K 100 dX8_on_133 rfl ?_
        refine zz_sub [1, 0] [(0, .ref (ad 0)), (1, .int (v1 + (1 : Int32)))] rfl ?_
        exact hB100 (v1 + (1 : Int32)) g21 h
  exact key _ v1 σ (Nat.lt_succ_self _) h0
set_option maxHeartbeats 4000000 in
set_option maxRecDepth 100000 in
theorem zu8_on_74 {p : Program} {l : Launch} {e : Env} {s : State} {m : MethodId} {args : Array Value} {below : List Frame} {meth : Method} {c : Code} {Q : State → Prop} {D : va_G} {A : Nat → Prop} {ad : Nat → Nat} {cy : Nat → ClassId} {v1 : Int32} {σ : zz_St} (K : zz_K p s m args c cX8_on 2 RX8 wsX8_on D (tysM cy) A (wM ad cy) []) {Qp : Int32 → zz_St → Prop} (hret : ∀ (r : Int32) (σ2 : zz_St), narrow .int (.int r) = .int r → Qp r σ2 → ∀ (pc : Nat) (lv : List (Nat × Value)), decode cX8_on pc = .ok (.ireturn, 1) → zz_G p l e zrm8_on s m args below meth c Q D A (wM ad cy) 2 pc lv [.int r] σ2) (h : zq8_on_74 v1 σ Qp) : zz_G p l e zrm8_on s m args below meth c Q D A (wM ad cy) 2 74 [(0, .ref (ad 0)), (1, .int v1)] [] σ := by
  unfold zq8_on_74 at h
  obtain ⟨I74, M74, h0, hs⟩ := h
  have key : ∀ (n : Nat) (v1 : Int32) (σ : zz_St), M74 v1 σ < n → I74 v1 σ → zz_G p l e zrm8_on s m args below meth c Q D A (wM ad cy) 2 74 [(0, .ref (ad 0)), (1, .int v1)] [] σ := by
    intro n
    induction n with
    | zero => intro v1 σ hlt; exact absurd hlt (Nat.not_lt_zero _)
    | succ n ih =>
      intro v1 σ hlt hI
      have h := hs v1 σ hI
      have hB74 : ∀ (v1' : Int32) (σ' : zz_St), (fun v1' σ' => I74 v1' σ' ∧ M74 v1' σ' < M74 v1 σ) v1' σ' → zz_G p l e zrm8_on s m args below meth c Q D A (wM ad cy) 2 74 [(0, .ref (ad 0)), (1, .int v1')] [] σ' := fun v1' σ' hz => ih v1' σ' (Nat.lt_of_lt_of_le hz.2 (Nat.le_of_lt_succ hlt)) hz.1
      refine zz_iload_n K 1 dX8_on_74 rfl rfl ?_
      refine zz_bipush K dX8_on_75 zcb_6 ?_
      refine zz_icmp_ge K 98 dX8_on_77 rfl (fun c22 => ?_) (fun c22 => ?_)
      · have h := (And.left h) c22
        refine zz_iconst K dX8_on_98 zci_0 ?_
        refine zz_istore_n K [(1, .int (0 : Int32)), (0, .ref (ad 0))] dX8_on_99 rfl (by decide) rfl ?_
        refine zz_sub [1, 0] [(0, .ref (ad 0)), (1, .int (0 : Int32))] rfl ?_
        exact zu8_on_100 K hret h
      · have h := (And.right h) c22
        refine zz_aload_n K 0 dX8_on_80 rfl rfl ?_
        refine zg8_10 K zin_X8_on_X8 zlk_X8_on_10 dX8_on_81 ?_
        refine zz_iload_n K 1 dX8_on_84 rfl rfl ?_
        refine zz_aload_n K 0 dX8_on_85 rfl rfl ?_
        refine zg8_45 K zin_X8_on_X8 zlk_X8_on_11 dX8_on_86 ?_
        refine zz_iload_n K 1 dX8_on_89 rfl rfl ?_
        obtain ⟨hin, h⟩ := h
        refine zz_iaload K 0 (wM_at_45 ad cy σ) rfl hin dX8_on_90 ?_
        obtain ⟨hin, h⟩ := h
        refine zz_iastore K 0 (σ2 := zz_A σ 10 (upd ((σ).2.1 10) v1.toNatClampNeg ((σ).2.1 45 v1.toNatClampNeg))) (wM_at_10 ad cy σ) (wM_set_10 ad cy σ _) rfl hin dX8_on_91 ?_
        refine zz_nms (fun g23 eg23 => ?_)
        have h := h g23 eg23
        refine zz_iinc K 1 [(1, .int (v1 + (1 : Int32))), (0, .ref (ad 0))] dX8_on_92 zci_1 rfl (by decide) rfl ?_
        refine zz_goto K 74 dX8_on_95 rfl ?_
        refine zz_sub [1, 0] [(0, .ref (ad 0)), (1, .int (v1 + (1 : Int32)))] rfl ?_
        exact hB74 (v1 + (1 : Int32)) g23 h
  exact key _ v1 σ (Nat.lt_succ_self _) h0
set_option maxHeartbeats 4000000 in
set_option maxRecDepth 100000 in
theorem zu8_on_0 {p : Program} {l : Launch} {e : Env} {s : State} {m : MethodId} {args : Array Value} {below : List Frame} {meth : Method} {c : Code} {Q : State → Prop} {D : va_G} {A : Nat → Prop} {ad : Nat → Nat} {cy : Nat → ClassId}  {σ : zz_St} (K : zz_K p s m args c cX8_on 2 RX8 wsX8_on D (tysM cy) A (wM ad cy) []) {Qp : Int32 → zz_St → Prop} (hret : ∀ (r : Int32) (σ2 : zz_St), narrow .int (.int r) = .int r → Qp r σ2 → ∀ (pc : Nat) (lv : List (Nat × Value)), decode cX8_on pc = .ok (.ireturn, 1) → zz_G p l e zrm8_on s m args below meth c Q D A (wM ad cy) 2 pc lv [.int r] σ2) (h : zq8_on σ Qp) : zz_G p l e zrm8_on s m args below meth c Q D A (wM ad cy) 2 0 [(0, .ref (ad 0))] [] σ := by
  unfold zq8_on at h
  refine zz_aload_n K 0 dX8_on_0 rfl rfl ?_
  refine zg8_42 K zin_X8_on_X8 zlk_X8_on_1 dX8_on_1 ?_
  refine zz_if_ne K 14 dX8_on_4 rfl (fun c24 => ?_) (fun c24 => ?_)
  · have h := (And.left h) c24
    refine zz_aload_n K 0 dX8_on_14 rfl rfl ?_
    refine zz_aload_n K 0 dX8_on_15 rfl rfl ?_
    refine zg8_43 K zin_X8_on_X8 zlk_X8_on_2 dX8_on_16 ?_
    obtain ⟨hb, h⟩ := h
    refine zp8_9 K zin_X8_on_X8 zlk_X8_on_3 hb dX8_on_19 ?_
    refine zz_nms (fun g25 eg25 => ?_)
    have h := h g25 eg25
    refine zz_aload_n K 0 dX8_on_22 rfl rfl ?_
    refine zz_aload_n K 0 dX8_on_23 rfl rfl ?_
    refine zg8_44 K zin_X8_on_X8 zlk_X8_on_4 dX8_on_24 ?_
    refine zz_iconst K dX8_on_27 zci_0 ?_
    obtain ⟨hin, h⟩ := h
    refine zz_iaload K 0 (wM_at_44 ad cy g25) rfl hin dX8_on_28 ?_
    refine zp8_2 K zin_X8_on_X8 zlk_X8_on_5 dX8_on_29 ?_
    refine zz_nms (fun g26 eg26 => ?_)
    have h := h g26 eg26
    refine zz_aload_n K 0 dX8_on_32 rfl rfl ?_
    refine zz_aload_n K 0 dX8_on_33 rfl rfl ?_
    refine zg8_44 K zin_X8_on_X8 zlk_X8_on_4 dX8_on_34 ?_
    refine zz_iconst K dX8_on_37 zci_1 ?_
    obtain ⟨hin, h⟩ := h
    refine zz_iaload K 0 (wM_at_44 ad cy g26) rfl hin dX8_on_38 ?_
    refine zp8_3 K zin_X8_on_X8 zlk_X8_on_6 dX8_on_39 ?_
    refine zz_nms (fun g27 eg27 => ?_)
    have h := h g27 eg27
    refine zz_aload_n K 0 dX8_on_42 rfl rfl ?_
    refine zz_aload_n K 0 dX8_on_43 rfl rfl ?_
    refine zg8_44 K zin_X8_on_X8 zlk_X8_on_4 dX8_on_44 ?_
    refine zz_iconst K dX8_on_47 zci_2 ?_
    obtain ⟨hin, h⟩ := h
    refine zz_iaload K 0 (wM_at_44 ad cy g27) rfl hin dX8_on_48 ?_
    refine zp8_7 K zin_X8_on_X8 zlk_X8_on_7 dX8_on_49 ?_
    refine zz_nms (fun g28 eg28 => ?_)
    have h := h g28 eg28
    refine zz_aload_n K 0 dX8_on_52 rfl rfl ?_
    refine zz_aload_n K 0 dX8_on_53 rfl rfl ?_
    refine zg8_44 K zin_X8_on_X8 zlk_X8_on_4 dX8_on_54 ?_
    refine zz_iconst K dX8_on_57 zci_3 ?_
    obtain ⟨hin, h⟩ := h
    refine zz_iaload K 0 (wM_at_44 ad cy g28) rfl hin dX8_on_58 ?_
    refine zp8_8 K zin_X8_on_X8 zlk_X8_on_8 dX8_on_59 ?_
    refine zz_nms (fun g29 eg29 => ?_)
    have h := h g29 eg29
    refine zz_aload_n K 0 dX8_on_62 rfl rfl ?_
    refine zz_aload_n K 0 dX8_on_63 rfl rfl ?_
    refine zg8_44 K zin_X8_on_X8 zlk_X8_on_4 dX8_on_64 ?_
    refine zz_iconst K dX8_on_67 zci_4 ?_
    obtain ⟨hin, h⟩ := h
    refine zz_iaload K 0 (wM_at_44 ad cy g29) rfl hin dX8_on_68 ?_
    refine zp8_6 K zin_X8_on_X8 zlk_X8_on_9 dX8_on_69 ?_
    refine zz_nms (fun g30 eg30 => ?_)
    have h := h g30 eg30
    refine zz_iconst K dX8_on_72 zci_0 ?_
    refine zz_istore_n K [(1, .int (0 : Int32)), (0, .ref (ad 0))] dX8_on_73 rfl (by decide) rfl ?_
    refine zz_sub [1, 0] [(0, .ref (ad 0)), (1, .int (0 : Int32))] rfl ?_
    exact zu8_on_74 K hret h
  · have h := (And.right h) c24
    refine zz_aload_n K 0 dX8_on_7 rfl rfl ?_
    refine zz_bipush K dX8_on_8 zcb_m3 ?_
    refine zz_callVi K zz_nw_nil [.int (-3 : Int32)] (zc8_no l D ad cy (-3 : Int32) σ _ h) gX8_on_X8_no rfl ⟨rfl, rfl⟩ zds_yX8_no_v ⟨Nat.le_of_ble_eq_true rfl, Nat.le_of_ble_eq_true rfl⟩ (wM_at_0 ad cy _) rfl rfl rfl rfl (Nat.le_of_ble_eq_true rfl) dX8_on_10 (fun r31 g32 h => ?_)
    exact hret _ _ rfl h _ _ dX8_on_13
set_option maxRecDepth 100000 in
theorem zc8_on (l : Launch) (D : va_G) (ad : Nat → Nat) (cy : Nat → ClassId)  (σ : zz_St) (Qp : Int32 → zz_St → Prop) (h : zq8_on σ Qp) : zz_Mi l yX8_on wsX8_on zrm8_on D (tysM cy) (wM ad cy) [] [.ref (ad 0)] σ Qp :=
  zz_Mi.of zz_nw_nil (wM_ad ad cy) (by decide +kernel) rfl ⟨rfl, rfl⟩ (Nat.le_of_ble_eq_true rfl) (fun p e s m args below meth c A QW K hret => zu8_on_0 K  hret h)
theorem zin_X8_tilesThatAre_X8 : ∀ w ∈ wsX80, w ∈ wsX8_tilesThatAre := fun w h => List.mem_cons_of_mem _ (List.mem_append_right _ h)
theorem zlk_X8_tilesThatAre_1 : Cond.fieldLink RX8 29 "SolidsRolledModel" "tiles" "[I" ∈ wsX8_tilesThatAre := List.mem_of_getElem? (i := 1) rfl
abbrev zrm8_tilesThatAre : Room := { frames := 1, cells := 0, slots := 0, locals := 20 }
set_option maxHeartbeats 4000000 in
set_option maxRecDepth 100000 in
theorem zu8_tilesThatAre_28 {p : Program} {l : Launch} {e : Env} {s : State} {m : MethodId} {args : Array Value} {below : List Frame} {meth : Method} {c : Code} {Q : State → Prop} {D : va_G} {A : Nat → Prop} {ad : Nat → Nat} {cy : Nat → ClassId} {v1 : Int32} {v3 : Int32} {s0 : Int32} {s1 : Int32} {σ : zz_St} (K : zz_K p s m args c cX8_tilesThatAre 4 RX8 wsX8_tilesThatAre D (tysM cy) A (wM ad cy) []) {Qp : Int32 → Prop} (hret : ∀ (r : Int32), narrow .int (.int r) = .int r → Qp r → ∀ (pc : Nat) (lv : List (Nat × Value)), decode cX8_tilesThatAre pc = .ok (.ireturn, 1) → zz_G p l e zrm8_tilesThatAre s m args below meth c Q D A (wM ad cy) 4 pc lv [.int r] σ) {B4 : Int32 → Int32 → Prop} (hB4 : ∀ (v2' : Int32) (v3' : Int32), B4 v2' v3' → zz_G p l e zrm8_tilesThatAre s m args below meth c Q D A (wM ad cy) 4 4 [(0, .ref (ad 0)), (1, .int v1), (2, .int v2'), (3, .int v3')] [] σ) (h : zq8_tilesThatAre_28 v1 v3 s0 s1 σ Qp B4) : zz_G p l e zrm8_tilesThatAre s m args below meth c Q D A (wM ad cy) 4 28 [(0, .ref (ad 0)), (1, .int v1), (3, .int v3)] [.int s0, .int s1] σ := by
  unfold zq8_tilesThatAre_28 at h
  refine zz_iadd K dX8_tilesThatAre_28 ?_
  refine zz_nmi (fun x5 ex5 => ?_)
  have h := h x5 ex5
  refine zz_istore_n K [(2, .int x5), (0, .ref (ad 0)), (1, .int v1), (3, .int v3)] dX8_tilesThatAre_29 rfl (by decide) rfl ?_
  refine zz_iinc K 3 [(3, .int (v3 + (1 : Int32))), (2, .int x5), (0, .ref (ad 0)), (1, .int v1)] dX8_tilesThatAre_30 zci_1 rfl (by decide) rfl ?_
  refine zz_goto K 4 dX8_tilesThatAre_33 rfl ?_
  refine zz_sub [2, 3, 1, 0] [(0, .ref (ad 0)), (1, .int v1), (2, .int x5), (3, .int (v3 + (1 : Int32)))] rfl ?_
  exact hB4 x5 (v3 + (1 : Int32)) h
set_option maxHeartbeats 4000000 in
set_option maxRecDepth 100000 in
theorem zu8_tilesThatAre_4 {p : Program} {l : Launch} {e : Env} {s : State} {m : MethodId} {args : Array Value} {below : List Frame} {meth : Method} {c : Code} {Q : State → Prop} {D : va_G} {A : Nat → Prop} {ad : Nat → Nat} {cy : Nat → ClassId} {v1 : Int32} {v2 : Int32} {v3 : Int32} {σ : zz_St} (K : zz_K p s m args c cX8_tilesThatAre 4 RX8 wsX8_tilesThatAre D (tysM cy) A (wM ad cy) []) {Qp : Int32 → Prop} (hret : ∀ (r : Int32), narrow .int (.int r) = .int r → Qp r → ∀ (pc : Nat) (lv : List (Nat × Value)), decode cX8_tilesThatAre pc = .ok (.ireturn, 1) → zz_G p l e zrm8_tilesThatAre s m args below meth c Q D A (wM ad cy) 4 pc lv [.int r] σ) (h : zq8_tilesThatAre_4 v1 v2 v3 σ Qp) : zz_G p l e zrm8_tilesThatAre s m args below meth c Q D A (wM ad cy) 4 4 [(0, .ref (ad 0)), (1, .int v1), (2, .int v2), (3, .int v3)] [] σ := by
  unfold zq8_tilesThatAre_4 at h
  obtain ⟨I4, M4, h0, hs⟩ := h
  have key : ∀ (n : Nat) (v2 : Int32) (v3 : Int32), M4 v2 v3 < n → I4 v2 v3 → zz_G p l e zrm8_tilesThatAre s m args below meth c Q D A (wM ad cy) 4 4 [(0, .ref (ad 0)), (1, .int v1), (2, .int v2), (3, .int v3)] [] σ := by
    intro n
    induction n with
    | zero => intro v2 v3 hlt; exact absurd hlt (Nat.not_lt_zero _)
    | succ n ih =>
      intro v2 v3 hlt hI
      have h := hs v2 v3 hI
      have hB4 : ∀ (v2' : Int32) (v3' : Int32), (fun v2' v3' => I4 v2' v3' ∧ M4 v2' v3' < M4 v2 v3) v2' v3' → zz_G p l e zrm8_tilesThatAre s m args below meth c Q D A (wM ad cy) 4 4 [(0, .ref (ad 0)), (1, .int v1), (2, .int v2'), (3, .int v3')] [] σ := fun v2' v3' hz => ih v2' v3' (Nat.lt_of_lt_of_le hz.2 (Nat.le_of_lt_succ hlt)) hz.1
      refine zz_iload_n K 3 dX8_tilesThatAre_4 rfl rfl ?_
      refine zz_aload_n K 0 dX8_tilesThatAre_5 rfl rfl ?_
      refine zz_callVi1 K zz_nw_nil [] (zc8_tileMany l D ad cy  σ _ h) gX8_tilesThatAre_X8_tileMany rfl ⟨rfl, rfl⟩ zds_yX8_tileMany_v ⟨Nat.le_of_ble_eq_true rfl, Nat.le_of_ble_eq_true rfl⟩ (wM_at_0 ad cy _) rfl rfl rfl rfl (Nat.le_of_ble_eq_true rfl) dX8_tilesThatAre_6 (fun r6 h => ?_)
      refine zz_icmp_ge K 36 dX8_tilesThatAre_9 rfl (fun c7 => ?_) (fun c7 => ?_)
      · have h := (And.left h) c7
        refine zz_iload_n K 2 dX8_tilesThatAre_36 rfl rfl ?_
        exact hret _ rfl h _ _ dX8_tilesThatAre_37
      · have h := (And.right h) c7
        refine zz_iload_n K 2 dX8_tilesThatAre_12 rfl rfl ?_
        refine zz_aload_n K 0 dX8_tilesThatAre_13 rfl rfl ?_
        refine zg8_4 K zin_X8_tilesThatAre_X8 zlk_X8_tilesThatAre_1 dX8_tilesThatAre_14 ?_
        refine zz_iload_n K 3 dX8_tilesThatAre_17 rfl rfl ?_
        obtain ⟨hin, h⟩ := h
        refine zz_iaload K 0 (wM_at_4 ad cy σ) rfl hin dX8_tilesThatAre_18 ?_
        refine zz_iload_n K 1 dX8_tilesThatAre_19 rfl rfl ?_
        refine zz_icmp_ne K 27 dX8_tilesThatAre_20 rfl (fun c8 => ?_) (fun c8 => ?_)
        · have h := (And.left h) c8
          refine zz_iconst K dX8_tilesThatAre_27 zci_0 ?_
          refine zz_sub [0, 1, 3] [(0, .ref (ad 0)), (1, .int v1), (3, .int v3)] rfl ?_
          exact zu8_tilesThatAre_28 K hret hB4 h
        · have h := (And.right h) c8
          refine zz_iconst K dX8_tilesThatAre_23 zci_1 ?_
          refine zz_goto K 28 dX8_tilesThatAre_24 rfl ?_
          refine zz_sub [0, 1, 3] [(0, .ref (ad 0)), (1, .int v1), (3, .int v3)] rfl ?_
          exact zu8_tilesThatAre_28 K hret hB4 h
  exact key _ v2 v3 (Nat.lt_succ_self _) h0
set_option maxHeartbeats 4000000 in
set_option maxRecDepth 100000 in
theorem zu8_tilesThatAre_0 {p : Program} {l : Launch} {e : Env} {s : State} {m : MethodId} {args : Array Value} {below : List Frame} {meth : Method} {c : Code} {Q : State → Prop} {D : va_G} {A : Nat → Prop} {ad : Nat → Nat} {cy : Nat → ClassId} {v1 : Int32} {σ : zz_St} (K : zz_K p s m args c cX8_tilesThatAre 4 RX8 wsX8_tilesThatAre D (tysM cy) A (wM ad cy) []) {Qp : Int32 → Prop} (hret : ∀ (r : Int32), narrow .int (.int r) = .int r → Qp r → ∀ (pc : Nat) (lv : List (Nat × Value)), decode cX8_tilesThatAre pc = .ok (.ireturn, 1) → zz_G p l e zrm8_tilesThatAre s m args below meth c Q D A (wM ad cy) 4 pc lv [.int r] σ) (h : zq8_tilesThatAre v1 σ Qp) : zz_G p l e zrm8_tilesThatAre s m args below meth c Q D A (wM ad cy) 4 0 [(0, .ref (ad 0)), (1, .int v1)] [] σ := by
  unfold zq8_tilesThatAre at h
  refine zz_iconst K dX8_tilesThatAre_0 zci_0 ?_
  refine zz_istore_n K [(2, .int (0 : Int32)), (0, .ref (ad 0)), (1, .int v1)] dX8_tilesThatAre_1 rfl (by decide) rfl ?_
  refine zz_iconst K dX8_tilesThatAre_2 zci_0 ?_
  refine zz_istore_n K [(3, .int (0 : Int32)), (2, .int (0 : Int32)), (0, .ref (ad 0)), (1, .int v1)] dX8_tilesThatAre_3 rfl (by decide) rfl ?_
  refine zz_sub [2, 3, 1, 0] [(0, .ref (ad 0)), (1, .int v1), (2, .int (0 : Int32)), (3, .int (0 : Int32))] rfl ?_
  exact zu8_tilesThatAre_4 K hret h
set_option maxRecDepth 100000 in
theorem zc8_tilesThatAre (l : Launch) (D : va_G) (ad : Nat → Nat) (cy : Nat → ClassId) (v1 : Int32) (σ : zz_St) (Qp : Int32 → Prop) (h : zq8_tilesThatAre v1 σ Qp) : zz_Mi l yX8_tilesThatAre wsX8_tilesThatAre zrm8_tilesThatAre D (tysM cy) (wM ad cy) [] [.ref (ad 0), .int v1] σ (fun r σ2 => σ2 = σ ∧ Qp r) :=
  zz_Mi.of zz_nw_nil (wM_ad ad cy) (by decide +kernel) rfl ⟨rfl, rfl⟩ (Nat.le_of_ble_eq_true rfl) (fun p e s m args below meth c A QW K hret => zu8_tilesThatAre_0 K  (fun r hn hq pc lv hd => hret r σ hn ⟨rfl, hq⟩ pc lv hd) h)
theorem zin_X8_count_X8 : ∀ w ∈ wsX80, w ∈ wsX8_count := fun w h => List.mem_cons_of_mem _ (List.mem_append_right _ h)
theorem zlk_X8_count_1 : Cond.fieldLink RX8 23 "SolidsRolledModel" "rows" "I" ∈ wsX8_count := List.mem_of_getElem? (i := 1) rfl
theorem zlk_X8_count_2 : Cond.fieldLink RX8 26 "SolidsRolledModel" "columns" "I" ∈ wsX8_count := List.mem_of_getElem? (i := 2) rfl
theorem zlk_X8_count_3 : Cond.fieldLink RX8 35 "SolidsRolledModel" "ink" "I" ∈ wsX8_count := List.mem_of_getElem? (i := 3) rfl
theorem zlk_X8_count_4 : Cond.fieldLink RX8 183 "SolidsRolledModel" "lettered" "I" ∈ wsX8_count := List.mem_of_getElem? (i := 4) rfl
theorem zlk_X8_count_5 : Cond.fieldLink RX8 198 "SolidsRolledModel" "done" "I" ∈ wsX8_count := List.mem_of_getElem? (i := 5) rfl
theorem zlk_X8_count_6 : Cond.fieldLink RX8 133 "SolidsRolledModel" "kind" "I" ∈ wsX8_count := List.mem_of_getElem? (i := 6) rfl
theorem zlk_X8_count_7 : Cond.constantLong RX8 330 (11) ∈ wsX8_count := List.mem_of_getElem? (i := 7) rfl
theorem zlk_X8_count_8 : Cond.constantLong RX8 332 (16) ∈ wsX8_count := List.mem_of_getElem? (i := 8) rfl
theorem zlk_X8_count_9 : Cond.fieldLink RX8 7 "SolidsRolledModel" "refusals" "[I" ∈ wsX8_count := List.mem_of_getElem? (i := 9) rfl
theorem zds_yX8_tilesThatAre_v : yX8_tilesThatAre.cls = RX8 ∧ yX8_tilesThatAre.cls ≠ "java/lang/invoke/MethodHandle" ∧ yX8_tilesThatAre.cls ≠ "java/lang/invoke/VarHandle" ∧ (parseMethodDescriptor yX8_tilesThatAre.desc).map (fun d => d.parameters.length) = some 1 := by decide +kernel
abbrev zrm8_count : Room := { frames := 2, cells := 0, slots := 0, locals := 43 }
set_option maxHeartbeats 4000000 in
set_option maxRecDepth 100000 in
theorem zu8_count_0 {p : Program} {l : Launch} {e : Env} {s : State} {m : MethodId} {args : Array Value} {below : List Frame} {meth : Method} {c : Code} {Q : State → Prop} {D : va_G} {A : Nat → Prop} {ad : Nat → Nat} {cy : Nat → ClassId} {v1 : Int32} {σ : zz_St} (K : zz_K p s m args c cX8_count 2 RX8 wsX8_count D (tysM cy) A (wM ad cy) []) {Qp : Int32 → Prop} (hret : ∀ (r : Int32), narrow .int (.int r) = .int r → Qp r → ∀ (pc : Nat) (lv : List (Nat × Value)), decode cX8_count pc = .ok (.ireturn, 1) → zz_G p l e zrm8_count s m args below meth c Q D A (wM ad cy) 2 pc lv [.int r] σ) (h : zq8_count v1 σ Qp) : zz_G p l e zrm8_count s m args below meth c Q D A (wM ad cy) 2 0 [(0, .ref (ad 0)), (1, .int v1)] [] σ := by
  unfold zq8_count at h
  refine zz_iload_n K 1 dX8_count_0 rfl rfl ?_
  by_cases c11 : v1 = (0 : Int32)
  · have h := (And.left h) c11
    refine zz_tin K (0) 52 dX8_count_1 (by rw [c11]; decide) (by decide) (by decide) rfl rfl ?_
    refine zz_aload_n K 0 dX8_count_52 rfl rfl ?_
    refine zg8_2 K zin_X8_count_X8 zlk_X8_count_1 dX8_count_53 ?_
    exact hret _ rfl h _ _ dX8_count_56
  have h := (And.right h) c11
  by_cases c12 : v1 = (1 : Int32)
  · have h := (And.left h) c12
    refine zz_tin K (1) 57 dX8_count_1 (by rw [c12]; decide) (by decide) (by decide) rfl rfl ?_
    refine zz_aload_n K 0 dX8_count_57 rfl rfl ?_
    refine zg8_3 K zin_X8_count_X8 zlk_X8_count_2 dX8_count_58 ?_
    exact hret _ rfl h _ _ dX8_count_61
  have h := (And.right h) c12
  by_cases c13 : v1 = (2 : Int32)
  · have h := (And.left h) c13
    refine zz_tin K (2) 62 dX8_count_1 (by rw [c13]; decide) (by decide) (by decide) rfl rfl ?_
    refine zz_aload_n K 0 dX8_count_62 rfl rfl ?_
    refine zz_iconst K dX8_count_63 zci_1 ?_
    refine zz_callVi1 K zz_nw_nil [.int (1 : Int32)] (zc8_tilesThatAre l D ad cy (1 : Int32) σ _ h) gX8_count_X8_tilesThatAre rfl ⟨rfl, rfl⟩ zds_yX8_tilesThatAre_v ⟨Nat.le_of_ble_eq_true rfl, Nat.le_of_ble_eq_true rfl⟩ (wM_at_0 ad cy _) rfl rfl rfl rfl (Nat.le_of_ble_eq_true rfl) dX8_count_64 (fun r6 h => ?_)
    exact hret _ rfl h _ _ dX8_count_67
  have h := (And.right h) c13
  by_cases c14 : v1 = (3 : Int32)
  · have h := (And.left h) c14
    refine zz_tin K (3) 68 dX8_count_1 (by rw [c14]; decide) (by decide) (by decide) rfl rfl ?_
    refine zz_aload_n K 0 dX8_count_68 rfl rfl ?_
    refine zz_iconst K dX8_count_69 zci_2 ?_
    refine zz_callVi1 K zz_nw_nil [.int (2 : Int32)] (zc8_tilesThatAre l D ad cy (2 : Int32) σ _ h) gX8_count_X8_tilesThatAre rfl ⟨rfl, rfl⟩ zds_yX8_tilesThatAre_v ⟨Nat.le_of_ble_eq_true rfl, Nat.le_of_ble_eq_true rfl⟩ (wM_at_0 ad cy _) rfl rfl rfl rfl (Nat.le_of_ble_eq_true rfl) dX8_count_70 (fun r7 h => ?_)
    exact hret _ rfl h _ _ dX8_count_73
  have h := (And.right h) c14
  by_cases c15 : v1 = (4 : Int32)
  · have h := (And.left h) c15
    refine zz_tin K (4) 74 dX8_count_1 (by rw [c15]; decide) (by decide) (by decide) rfl rfl ?_
    refine zz_aload_n K 0 dX8_count_74 rfl rfl ?_
    refine zz_callVi1 K zz_nw_nil [] (zc8_printed l D ad cy  σ _ h) gX8_count_X8_printed rfl ⟨rfl, rfl⟩ zds_yX8_printed_v ⟨Nat.le_of_ble_eq_true rfl, Nat.le_of_ble_eq_true rfl⟩ (wM_at_0 ad cy _) rfl rfl rfl rfl (Nat.le_of_ble_eq_true rfl) dX8_count_75 (fun r8 h => ?_)
    exact hret _ rfl h _ _ dX8_count_78
  have h := (And.right h) c15
  by_cases c16 : v1 = (5 : Int32)
  · have h := (And.left h) c16
    refine zz_tin K (5) 79 dX8_count_1 (by rw [c16]; decide) (by decide) (by decide) rfl rfl ?_
    refine zz_aload_n K 0 dX8_count_79 rfl rfl ?_
    refine zg8_6 K zin_X8_count_X8 zlk_X8_count_3 dX8_count_80 ?_
    exact hret _ rfl h _ _ dX8_count_83
  have h := (And.right h) c16
  by_cases c17 : v1 = (6 : Int32)
  · have h := (And.left h) c17
    refine zz_tin K (6) 84 dX8_count_1 (by rw [c17]; decide) (by decide) (by decide) rfl rfl ?_
    refine zz_aload_n K 0 dX8_count_84 rfl rfl ?_
    refine zg8_15 K zin_X8_count_X8 zlk_X8_count_4 dX8_count_85 ?_
    exact hret _ rfl h _ _ dX8_count_88
  have h := (And.right h) c17
  by_cases c18 : v1 = (7 : Int32)
  · have h := (And.left h) c18
    refine zz_tin K (7) 89 dX8_count_1 (by rw [c18]; decide) (by decide) (by decide) rfl rfl ?_
    refine zz_aload_n K 0 dX8_count_89 rfl rfl ?_
    refine zg8_19 K zin_X8_count_X8 zlk_X8_count_5 dX8_count_90 ?_
    exact hret _ rfl h _ _ dX8_count_93
  have h := (And.right h) c18
  by_cases c19 : v1 = (8 : Int32)
  · have h := (And.left h) c19
    refine zz_tin K (8) 94 dX8_count_1 (by rw [c19]; decide) (by decide) (by decide) rfl rfl ?_
    refine zz_aload_n K 0 dX8_count_94 rfl rfl ?_
    refine zg8_7 K zin_X8_count_X8 zlk_X8_count_6 dX8_count_95 ?_
    exact hret _ rfl h _ _ dX8_count_98
  have h := (And.right h) c19
  refine zz_tout K 99 dX8_count_1 (zz_tsw v1 (0) (8) (fun z h1 h2 => by
    have hz : z = 0 ∨ z = 1 ∨ z = 2 ∨ z = 3 ∨ z = 4 ∨ z = 5 ∨ z = 6 ∨ z = 7 ∨ z = 8 := by omega
    rcases hz with rfl | rfl | rfl | rfl | rfl | rfl | rfl | rfl | rfl <;> intro q
    · exact c11 (Int32.toInt_inj.mp (q.trans (by decide)))
    · exact c12 (Int32.toInt_inj.mp (q.trans (by decide)))
    · exact c13 (Int32.toInt_inj.mp (q.trans (by decide)))
    · exact c14 (Int32.toInt_inj.mp (q.trans (by decide)))
    · exact c15 (Int32.toInt_inj.mp (q.trans (by decide)))
    · exact c16 (Int32.toInt_inj.mp (q.trans (by decide)))
    · exact c17 (Int32.toInt_inj.mp (q.trans (by decide)))
    · exact c18 (Int32.toInt_inj.mp (q.trans (by decide)))
    · exact c19 (Int32.toInt_inj.mp (q.trans (by decide))))) rfl ?_
  refine zz_iload_n K 1 dX8_count_99 rfl rfl ?_
  refine zz_i2l K dX8_count_100 ?_
  refine zz_ldc2 K zlk_X8_count_7 dX8_count_101 ?_
  refine zz_ldc2 K zlk_X8_count_8 dX8_count_104 ?_
  refine zz_callSi1 K zz_nw_nil [.long (v1.toInt64), .long (11 : Int64), .long (16 : Int64)] (zc8_in l D ad cy (v1.toInt64) (11 : Int64) (16 : Int64) σ _ h) gX8_count_X8_in rfl ⟨rfl, rfl⟩ zds_yX8_in_s ⟨Nat.le_of_ble_eq_true rfl, Nat.le_of_ble_eq_true rfl⟩ rfl rfl (Nat.le_of_ble_eq_true rfl) dX8_count_107 (fun r9 h => ?_)
  refine zz_if_eq K 125 dX8_count_110 rfl (fun c10 => ?_) (fun c10 => ?_)
  · have h := (And.left h) c10
    refine zz_bipush K dX8_count_125 zcb_m9 ?_
    exact hret _ rfl h _ _ dX8_count_127
  · have h := (And.right h) c10
    refine zz_aload_n K 0 dX8_count_113 rfl rfl ?_
    refine zg8_1 K zin_X8_count_X8 zlk_X8_count_9 dX8_count_114 ?_
    refine zz_iload_n K 1 dX8_count_117 rfl rfl ?_
    refine zz_bipush K dX8_count_118 zcb_10 ?_
    refine zz_isub K dX8_count_120 ?_
    obtain ⟨hin, h⟩ := h
    refine zz_iaload K 0 (wM_at_1 ad cy σ) rfl hin dX8_count_121 ?_
    refine zz_goto K 127 dX8_count_122 rfl ?_
    exact hret _ rfl h _ _ dX8_count_127
set_option maxRecDepth 100000 in
theorem zc8_count (l : Launch) (D : va_G) (ad : Nat → Nat) (cy : Nat → ClassId) (v1 : Int32) (σ : zz_St) (Qp : Int32 → Prop) (h : zq8_count v1 σ Qp) : zz_Mi l yX8_count wsX8_count zrm8_count D (tysM cy) (wM ad cy) [] [.ref (ad 0), .int v1] σ (fun r σ2 => σ2 = σ ∧ Qp r) :=
  zz_Mi.of zz_nw_nil (wM_ad ad cy) (by decide +kernel) rfl ⟨rfl, rfl⟩ (Nat.le_of_ble_eq_true rfl) (fun p e s m args below meth c A QW K hret => zu8_count_0 K  (fun r hn hq pc lv hd => hret r σ hn ⟨rfl, hq⟩ pc lv hd) h)
