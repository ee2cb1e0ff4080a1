theorem zcCb_50 : (Int8.ofInt (50)).toInt32 = (50 : Int32) := by decide
theorem zin_X7_lots_X7 : ∀ w ∈ wsX70, w ∈ wsX7_lots := fun w h => List.mem_cons_of_mem _ (List.mem_append_left _ (List.mem_append_left _ (List.mem_append_right _ h)))
theorem zlk_X7_lots_1 : Cond.fieldLink RX7 26 "SolidsRolled" "world" "LSolidsRolled$World;" ∈ wsX7_lots := List.mem_of_getElem? (i := 1) rfl
theorem zin_X7_lots_X6 : ∀ w ∈ wsX60, w ∈ wsX7_lots := fun w h => List.mem_cons_of_mem _ (List.mem_append_left _ (List.mem_append_right _ h))
theorem zlk_X7_lots_2 : Cond.fieldLink RX7 169 "SolidsRolled$World" "state" "I" ∈ wsX7_lots := List.mem_of_getElem? (i := 2) rfl
theorem zlk_X7_lots_3 : Cond.constant RX7 279 (1664525) ∈ wsX7_lots := List.mem_of_getElem? (i := 3) rfl
theorem zlk_X7_lots_4 : Cond.constant RX7 280 (1013904223) ∈ wsX7_lots := List.mem_of_getElem? (i := 4) rfl
theorem zlk_X7_lots_5 : Cond.constant RX7 281 (2147483647) ∈ wsX7_lots := List.mem_of_getElem? (i := 5) rfl
theorem zcCs_256 : (Int16.ofInt (256)).toInt32 = (256 : Int32) := by decide
abbrev zrm7_lots : Room := { frames := 3, cells := 0, slots := 0, locals := 77 }
set_option maxHeartbeats 4000000 in
set_option maxRecDepth 100000 in
theorem zu7_lots_34 {p : Program} {l : Launch} {e : Env} {s : State} {m : MethodId} {args : Array Value} {below : List Frame} {meth : Method} {c : Code} {Q : State → Prop} {D : va_G} {A : Nat → Prop} {ad : Nat → Nat} {cy : Nat → ClassId}  {σ : zz_St} (K : zz_K p s m args c cX7_lots 9 RX7 wsX7_lots D (tysC cy) A (wC ad cy) nwC) {Qp : Int32 → zz_St → Prop} (hret : ∀ (r : Int32) (σ2 : zz_St), narrow .int (.int r) = .int r → Qp r σ2 → ∀ (pc : Nat) (lv : List (Nat × Value)), decode cX7_lots pc = .ok (.ireturn, 1) → zz_G p l e zrm7_lots s m args below meth c Q D A (wC ad cy) 9 pc lv [.int r] σ2) (h : zq7_lots_34 σ Qp) : zz_G p l e zrm7_lots s m args below meth c Q D A (wC ad cy) 9 34 [(0, .ref (ad 0))] [] σ := by
  unfold zq7_lots_34 at h
  refine zz_aload_n K 0 dX7_lots_34 rfl rfl ?_
  refine zz_bipush K dX7_lots_35 zcCb_m2 ?_
  refine zz_callVi K zz_nwC [.int (-2 : Int32)] (zc7_refuse l D ad cy (-2 : Int32) σ _  h) gX7_lots_X7_refuse rfl ⟨rfl, rfl⟩ zdsC_yX7_refuse_v ⟨Nat.le_of_ble_eq_true rfl, Nat.le_of_ble_eq_true rfl⟩ (wC_at_0 ad cy σ) rfl rfl rfl rfl (Nat.le_of_ble_eq_true rfl) dX7_lots_37 (fun r21 g22 h => ?_)
  exact hret _ _ rfl h _ _ dX7_lots_40
set_option maxHeartbeats 4000000 in
set_option maxRecDepth 100000 in
theorem zu7_lots_129 {p : Program} {l : Launch} {e : Env} {s : State} {m : MethodId} {args : Array Value} {below : List Frame} {meth : Method} {c : Code} {Q : State → Prop} {D : va_G} {A : Nat → Prop} {ad : Nat → Nat} {cy : Nat → ClassId} {v1 : Int32} {v3 : Int32} {v4 : Int32} {v5 : Int32} {v6 : Int32} {v7 : Int32} {σ : zz_St} (K : zz_K p s m args c cX7_lots 9 RX7 wsX7_lots D (tysC cy) A (wC ad cy) nwC) {Qp : Int32 → zz_St → Prop} (hret : ∀ (r : Int32) (σ2 : zz_St), narrow .int (.int r) = .int r → Qp r σ2 → ∀ (pc : Nat) (lv : List (Nat × Value)), decode cX7_lots pc = .ok (.ireturn, 1) → zz_G p l e zrm7_lots s m args below meth c Q D A (wC ad cy) 9 pc lv [.int r] σ2) {B76 : Int32 → Int32 → Int32 → Int32 → Prop} (hB76 : ∀ (v4' : Int32) (v5' : Int32) (v6' : Int32) (v7' : Int32), B76 v4' v5' v6' v7' → zz_G p l e zrm7_lots s m args below meth c Q D A (wC ad cy) 9 76 [(0, .ref (ad 0)), (1, .int v1), (3, .int v3), (4, .int v4'), (5, .int v5'), (6, .int v6'), (7, .int v7')] [] σ) (h : zq7_lots_129 v1 v3 v4 v5 v6 v7 σ Qp B76) : zz_G p l e zrm7_lots s m args below meth c Q D A (wC ad cy) 9 129 [(0, .ref (ad 0)), (1, .int v1), (3, .int v3), (4, .int v4), (5, .int v5), (6, .int v6), (7, .int v7)] [] σ := by
  unfold zq7_lots_129 at h
  refine zz_iinc K 6 [(7, .int (v7 + (1 : Int32))), (0, .ref (ad 0)), (1, .int v1), (3, .int v3), (4, .int v4), (5, .int v5), (6, .int v6)] dX7_lots_129 zcCi_1 rfl (by decide) rfl ?_
  refine zz_goto K 76 dX7_lots_132 rfl ?_
  refine zz_sub [1, 2, 3, 4, 5, 6, 0] [(0, .ref (ad 0)), (1, .int v1), (3, .int v3), (4, .int v4), (5, .int v5), (6, .int v6), (7, .int (v7 + (1 : Int32)))] rfl ?_
  exact hB76 v4 v5 v6 (v7 + (1 : Int32)) h
set_option maxHeartbeats 4000000 in
set_option maxRecDepth 100000 in
theorem zu7_lots_76 {p : Program} {l : Launch} {e : Env} {s : State} {m : MethodId} {args : Array Value} {below : List Frame} {meth : Method} {c : Code} {Q : State → Prop} {D : va_G} {A : Nat → Prop} {ad : Nat → Nat} {cy : Nat → ClassId} {v1 : Int32} {v3 : Int32} {v4 : Int32} {v5 : Int32} {v6 : Int32} {v7 : Int32} {σ : zz_St} (K : zz_K p s m args c cX7_lots 9 RX7 wsX7_lots D (tysC cy) A (wC ad cy) nwC) {Qp : Int32 → zz_St → Prop} (hret : ∀ (r : Int32) (σ2 : zz_St), narrow .int (.int r) = .int r → Qp r σ2 → ∀ (pc : Nat) (lv : List (Nat × Value)), decode cX7_lots pc = .ok (.ireturn, 1) → zz_G p l e zrm7_lots s m args below meth c Q D A (wC ad cy) 9 pc lv [.int r] σ2) (h : zq7_lots_76 v1 v3 v4 v5 v6 v7 σ Qp) : zz_G p l e zrm7_lots s m args below meth c Q D A (wC ad cy) 9 76 [(0, .ref (ad 0)), (1, .int v1), (3, .int v3), (4, .int v4), (5, .int v5), (6, .int v6), (7, .int v7)] [] σ := by
  unfold zq7_lots_76 at h
  obtain ⟨I76, M76, h0, hs⟩ := h
  have key : ∀ (nq : Nat) (v4 : Int32) (v5 : Int32) (v6 : Int32) (v7 : Int32), M76 v4 v5 v6 v7 < nq → I76 v4 v5 v6 v7 → zz_G p l e zrm7_lots s m args below meth c Q D A (wC ad cy) 9 76 [(0, .ref (ad 0)), (1, .int v1), (3, .int v3), (4, .int v4), (5, .int v5), (6, .int v6), (7, .int v7)] [] σ := by
    intro nq
    induction nq with
    | zero => intro v4 v5 v6 v7 hlt; exact absurd hlt (Nat.not_lt_zero _)
    | succ nq ih =>
      intro v4 v5 v6 v7 hlt hI
      have h := hs v4 v5 v6 v7 hI
      have hB76 : ∀ (v4' : Int32) (v5' : Int32) (v6' : Int32) (v7' : Int32), (fun v4' v5' v6' v7' => I76 v4' v5' v6' v7' ∧ M76 v4' v5' v6' v7' < M76 v4 v5 v6 v7) v4' v5' v6' v7' → zz_G p l e zrm7_lots s m args below meth c Q D A (wC ad cy) 9 76 [(0, .ref (ad 0)), (1, .int v1), (3, .int v3), (4, .int v4'), (5, .int v5'), (6, .int v6'), (7, .int v7')] [] σ := fun v4' v5' v6' v7' hz => ih v4' v5' v6' v7' (Nat.lt_of_lt_of_le hz.2 (Nat.le_of_lt_succ hlt)) hz.1
      refine zz_iload K 6 dX7_lots_76 rfl ?_
      refine zz_iload_n K 1 dX7_lots_78 rfl rfl ?_
      refine zz_icmp_ge K 135 dX7_lots_79 rfl (fun c23 => ?_) (fun c23 => ?_)
      · have h := (And.left h) c23
        refine zz_iload_n K 2 dX7_lots_135 rfl rfl ?_
        refine zz_if_ne K 144 dX7_lots_136 rfl (fun c24 => ?_) (fun c24 => ?_)
        · have h := (And.left h) c24
          refine zz_iload K 4 dX7_lots_144 rfl ?_
          refine zz_bipush K dX7_lots_146 zcCb_24 ?_
          refine zz_idiv K (by decide : ¬ (24 : Int32) = 0) dX7_lots_148 ?_
          exact hret _ _ rfl h _ _ dX7_lots_149
        · have h := (And.right h) c24
          refine zz_iload K 5 dX7_lots_139 rfl ?_
          refine zz_goto K 149 dX7_lots_141 rfl ?_
          exact hret _ _ rfl h _ _ dX7_lots_149
      · have h := (And.right h) c23
        refine zz_iload K 3 dX7_lots_82 rfl ?_
        refine zz_ldcw K zlk_X7_lots_3 dX7_lots_84 ?_
        refine zz_imul K dX7_lots_87 ?_
        refine zz_ldcw K zlk_X7_lots_4 dX7_lots_88 ?_
        refine zz_iadd K dX7_lots_91 ?_
        refine zz_nmi (fun x25 ex25 => ?_)
        have h := h x25 ex25
        refine zz_istore K [(4, .int x25), (0, .ref (ad 0)), (1, .int v1), (3, .int v3), (5, .int v5), (6, .int v6), (7, .int v7)] dX7_lots_92 (by decide) rfl ?_
        refine zz_aload_n K 1 dX7_lots_94 rfl rfl ?_
        refine zg7_0_0 K zin_X7_lots_X7 zlk_X7_lots_1 dX7_lots_95 ?_
        refine zz_iload K 4 dX7_lots_98 rfl ?_
        refine zz_iload K 0 dX7_lots_100 rfl ?_
        refine zz_ldcw K zlk_X7_lots_5 dX7_lots_102 ?_
        refine zz_iand K dX7_lots_105 ?_
        refine zz_sipush K dX7_lots_106 zcCs_256 ?_
        refine zz_idiv K (by decide : ¬ (256 : Int32) = 0) dX7_lots_109 ?_
        refine zz_iconst K dX7_lots_110 zcCi_4 ?_
        refine zz_irem K (by decide : ¬ (4 : Int32) = 0) dX7_lots_111 ?_
        refine zz_callVi1 K zz_nwC [.int v5, .int (((x25 &&& (2147483647 : Int32)) / (256 : Int32)) - ((x25 &&& (2147483647 : Int32)) / (256 : Int32)) / (4 : Int32) * (4 : Int32))] (zc6_rolled l D ad cy v5 (((x25 &&& (2147483647 : Int32)) / (256 : Int32)) - ((x25 &&& (2147483647 : Int32)) / (256 : Int32)) / (4 : Int32) * (4 : Int32)) σ _  h) gX7_lots_X6_rolled rfl ⟨rfl, rfl⟩ zdsC_yX6_rolled_v ⟨Nat.le_of_ble_eq_true rfl, Nat.le_of_ble_eq_true rfl⟩ (wC_at_1 ad cy σ) rfl rfl rfl rfl (Nat.le_of_ble_eq_true rfl) dX7_lots_112 (fun r26 h => ?_)
        refine zz_istore K [(8, .int r26), (4, .int x25), (0, .ref (ad 0)), (1, .int v1), (3, .int v3), (5, .int v5), (6, .int v6), (7, .int v7)] dX7_lots_115 (by decide) rfl ?_
        refine zz_iload K 0 dX7_lots_117 rfl ?_
        refine zz_if_lt K 129 dX7_lots_119 rfl (fun c27 => ?_) (fun c27 => ?_)
        · have h := (And.left h) c27
          refine zz_sub [2, 3, 4, 1, 5, 6, 7] [(0, .ref (ad 0)), (1, .int v1), (3, .int v3), (4, .int x25), (5, .int v5), (6, .int v6), (7, .int v7)] rfl ?_
          exact zu7_lots_129 K hret hB76 h
        · have h := (And.right h) c27
          refine zz_iload K 0 dX7_lots_122 rfl ?_
          refine zz_istore K [(5, .int r26), (8, .int r26), (4, .int x25), (0, .ref (ad 0)), (1, .int v1), (3, .int v3), (6, .int v6), (7, .int v7)] dX7_lots_124 (by decide) rfl ?_
          refine zz_iinc K 6 [(6, .int (v6 + (1 : Int32))), (5, .int r26), (8, .int r26), (4, .int x25), (0, .ref (ad 0)), (1, .int v1), (3, .int v3), (7, .int v7)] dX7_lots_126 zcCi_1 rfl (by decide) rfl ?_
          refine zz_sub [4, 5, 6, 3, 1, 0, 7] [(0, .ref (ad 0)), (1, .int v1), (3, .int v3), (4, .int x25), (5, .int r26), (6, .int (v6 + (1 : Int32))), (7, .int v7)] rfl ?_
          exact zu7_lots_129 K hret hB76 h
  exact key _ v4 v5 v6 v7 (Nat.lt_succ_self _) h0
set_option maxHeartbeats 4000000 in
set_option maxRecDepth 100000 in
theorem zu7_lots_0 {p : Program} {l : Launch} {e : Env} {s : State} {m : MethodId} {args : Array Value} {below : List Frame} {meth : Method} {c : Code} {Q : State → Prop} {D : va_G} {A : Nat → Prop} {ad : Nat → Nat} {cy : Nat → ClassId} {v1 : Int32} {v2 : Int32} {v3 : Int32} {σ : zz_St} (K : zz_K p s m args c cX7_lots 9 RX7 wsX7_lots D (tysC cy) A (wC ad cy) nwC) {Qp : Int32 → zz_St → Prop} (hret : ∀ (r : Int32) (σ2 : zz_St), narrow .int (.int r) = .int r → Qp r σ2 → ∀ (pc : Nat) (lv : List (Nat × Value)), decode cX7_lots pc = .ok (.ireturn, 1) → zz_G p l e zrm7_lots s m args below meth c Q D A (wC ad cy) 9 pc lv [.int r] σ2) (h : zq7_lots v1 v2 v3 σ Qp) : zz_G p l e zrm7_lots s m args below meth c Q D A (wC ad cy) 9 0 [(0, .ref (ad 0)), (1, .int v1), (2, .int v2), (3, .int v3)] [] σ := by
  unfold zq7_lots at h
  refine zz_iload_n K 1 dX7_lots_0 rfl rfl ?_
  refine zz_iconst K dX7_lots_1 zcCi_1 ?_
  refine zz_icmp_ge K 12 dX7_lots_2 rfl (fun c28 => ?_) (fun c28 => ?_)
  · have h := (And.left h) c28
    refine zz_iload_n K 1 dX7_lots_12 rfl rfl ?_
    refine zz_bipush K dX7_lots_13 zcCb_50 ?_
    refine zz_icmp_le K 25 dX7_lots_15 rfl (fun c29 => ?_) (fun c29 => ?_)
    · have h := (And.left h) c29
      refine zz_iload_n K 3 dX7_lots_25 rfl rfl ?_
      refine zz_if_lt K 34 dX7_lots_26 rfl (fun c30 => ?_) (fun c30 => ?_)
      · have h := (And.left h) c30
        refine zz_sub [0] [(0, .ref (ad 0))] rfl ?_
        exact zu7_lots_34 K hret h
      · have h := (And.right h) c30
        refine zz_iload_n K 3 dX7_lots_29 rfl rfl ?_
        refine zz_iconst K dX7_lots_30 zcCi_1 ?_
        refine zz_icmp_le K 41 dX7_lots_31 rfl (fun c31 => ?_) (fun c31 => ?_)
        · have h := (And.left h) c31
          refine zz_aload_n K 0 dX7_lots_41 rfl rfl ?_
          refine zg7_0_0 K zin_X7_lots_X7 zlk_X7_lots_1 dX7_lots_42 ?_
          refine zz_callVi1 K zz_nwC [] (zc6_isNone l D ad cy  σ _  h) gX7_lots_X6_isNone rfl ⟨rfl, rfl⟩ zdsC_yX6_isNone_v ⟨Nat.le_of_ble_eq_true rfl, Nat.le_of_ble_eq_true rfl⟩ (wC_at_1 ad cy σ) rfl rfl rfl rfl (Nat.le_of_ble_eq_true rfl) dX7_lots_45 (fun r32 h => ?_)
          refine zz_if_eq K 58 dX7_lots_48 rfl (fun c33 => ?_) (fun c33 => ?_)
          · have h := (And.left h) c33
            refine zz_iload_n K 2 dX7_lots_58 rfl rfl ?_
            refine zz_istore K [(4, .int v2), (0, .ref (ad 0)), (1, .int v1), (2, .int v2), (3, .int v3)] dX7_lots_59 (by decide) rfl ?_
            refine zz_aload_n K 1 dX7_lots_61 rfl rfl ?_
            refine zg7_0_0 K zin_X7_lots_X7 zlk_X7_lots_1 dX7_lots_62 ?_
            refine zg6_7_0 K zin_X7_lots_X6 zlk_X7_lots_2 dX7_lots_65 ?_
            refine zz_nmi (fun x34 ex34 => ?_)
            have h := h x34 ex34
            refine zz_istore K [(5, .int x34), (4, .int v2), (0, .ref (ad 0)), (1, .int v1), (2, .int v2), (3, .int v3)] dX7_lots_68 (by decide) rfl ?_
            refine zz_iconst K dX7_lots_70 zcCi_0 ?_
            refine zz_istore K [(6, .int (0 : Int32)), (5, .int x34), (4, .int v2), (0, .ref (ad 0)), (1, .int v1), (2, .int v2), (3, .int v3)] dX7_lots_71 (by decide) rfl ?_
            refine zz_iconst K dX7_lots_73 zcCi_0 ?_
            refine zz_istore K [(7, .int (0 : Int32)), (6, .int (0 : Int32)), (5, .int x34), (4, .int v2), (0, .ref (ad 0)), (1, .int v1), (2, .int v2), (3, .int v3)] dX7_lots_74 (by decide) rfl ?_
            refine zz_sub [4, 5, 7, 3, 2, 1, 0] [(0, .ref (ad 0)), (1, .int v1), (3, .int v3), (4, .int v2), (5, .int x34), (6, .int (0 : Int32)), (7, .int (0 : Int32))] rfl ?_
            exact zu7_lots_76 K hret h
          · have h := (And.right h) c33
            refine zz_aload_n K 0 dX7_lots_51 rfl rfl ?_
            refine zz_bipush K dX7_lots_52 zcCb_m3 ?_
            refine zz_callVi K zz_nwC [.int (-3 : Int32)] (zc7_refuse l D ad cy (-3 : Int32) σ _  h) gX7_lots_X7_refuse rfl ⟨rfl, rfl⟩ zdsC_yX7_refuse_v ⟨Nat.le_of_ble_eq_true rfl, Nat.le_of_ble_eq_true rfl⟩ (wC_at_0 ad cy σ) rfl rfl rfl rfl (Nat.le_of_ble_eq_true rfl) dX7_lots_54 (fun r35 g36 h => ?_)
            exact hret _ _ rfl h _ _ dX7_lots_57
        · have h := (And.right h) c31
          refine zz_sub [0] [(0, .ref (ad 0))] rfl ?_
          exact zu7_lots_34 K hret h
    · have h := (And.right h) c29
      refine zz_aload_n K 0 dX7_lots_18 rfl rfl ?_
      refine zz_bipush K dX7_lots_19 zcCb_m6 ?_
      refine zz_callVi K zz_nwC [.int (-6 : Int32)] (zc7_refuse l D ad cy (-6 : Int32) σ _  h) gX7_lots_X7_refuse rfl ⟨rfl, rfl⟩ zdsC_yX7_refuse_v ⟨Nat.le_of_ble_eq_true rfl, Nat.le_of_ble_eq_true rfl⟩ (wC_at_0 ad cy σ) rfl rfl rfl rfl (Nat.le_of_ble_eq_true rfl) dX7_lots_21 (fun r37 g38 h => ?_)
      exact hret _ _ rfl h _ _ dX7_lots_24
  · have h := (And.right h) c28
    refine zz_aload_n K 0 dX7_lots_5 rfl rfl ?_
    refine zz_bipush K dX7_lots_6 zcCb_m4 ?_
    refine zz_callVi K zz_nwC [.int (-4 : Int32)] (zc7_refuse l D ad cy (-4 : Int32) σ _  h) gX7_lots_X7_refuse rfl ⟨rfl, rfl⟩ zdsC_yX7_refuse_v ⟨Nat.le_of_ble_eq_true rfl, Nat.le_of_ble_eq_true rfl⟩ (wC_at_0 ad cy σ) rfl rfl rfl rfl (Nat.le_of_ble_eq_true rfl) dX7_lots_8 (fun r39 g40 h => ?_)
    exact hret _ _ rfl h _ _ dX7_lots_11
set_option maxRecDepth 100000 in
theorem zc7_lots (l : Launch) (D : va_G) (ad : Nat → Nat) (cy : Nat → ClassId) (v1 : Int32) (v2 : Int32) (v3 : Int32) (σ : zz_St) (Qp : Int32 → zz_St → Prop) (h : zq7_lots v1 v2 v3 σ Qp) : zz_Mi l yX7_lots wsX7_lots zrm7_lots D (tysC cy) (wC ad cy) nwC [.ref (ad 0), .int v1, .int v2, .int v3] σ Qp :=
  zz_Mi.of zz_nwC (wC_ad ad cy) (by decide +kernel) rfl ⟨rfl, rfl⟩ (Nat.le_of_ble_eq_true rfl) (fun p e s m args below meth c A QW K hret => zu7_lots_0 K  hret h)
abbrev zrm7_isList : Room := { frames := 0, cells := 0, slots := 0, locals := 0 }
set_option maxHeartbeats 4000000 in
set_option maxRecDepth 100000 in
theorem zu7_isList_0 {p : Program} {l : Launch} {e : Env} {s : State} {m : MethodId} {args : Array Value} {below : List Frame} {meth : Method} {c : Code} {Q : State → Prop} {D : va_G} {A : Nat → Prop} {ad : Nat → Nat} {cy : Nat → ClassId} {v0 : Int32} {σ : zz_St} (K : zz_K p s m args c cX7_isList 1 RX7 wsX7_isList D (tysC cy) A (wC ad cy) nwC) {Qp : Int32 → Prop} (hret : ∀ (r : Int32), narrow .boolean (.int r) = .int r → Qp r → ∀ (pc : Nat) (lv : List (Nat × Value)), decode cX7_isList pc = .ok (.ireturn, 1) → zz_G p l e zrm7_isList s m args below meth c Q D A (wC ad cy) 1 pc lv [.int r] σ) (h : zq7_isList v0 Qp) : zz_G p l e zrm7_isList s m args below meth c Q D A (wC ad cy) 1 0 [(0, .int v0)] [] σ := by
  unfold zq7_isList at h
  refine zz_iload_n K 0 dX7_isList_0 rfl rfl ?_
  refine zz_if_lt K 13 dX7_isList_1 rfl (fun c3 => ?_) (fun c3 => ?_)
  · have h := (And.left h) c3
    refine zz_iconst K dX7_isList_13 zcCi_0 ?_
    exact hret _ rfl h _ _ dX7_isList_14
  · have h := (And.right h) c3
    refine zz_iload_n K 0 dX7_isList_4 rfl rfl ?_
    refine zz_iconst K dX7_isList_5 zcCi_3 ?_
    refine zz_icmp_ge K 13 dX7_isList_6 rfl (fun c4 => ?_) (fun c4 => ?_)
    · have h := (And.left h) c4
      refine zz_iconst K dX7_isList_13 zcCi_0 ?_
      exact hret _ rfl h _ _ dX7_isList_14
    · have h := (And.right h) c4
      refine zz_iconst K dX7_isList_9 zcCi_1 ?_
      refine zz_goto K 14 dX7_isList_10 rfl ?_
      exact hret _ rfl h _ _ dX7_isList_14
set_option maxRecDepth 100000 in
theorem zc7_isList (l : Launch) (D : va_G) (ad : Nat → Nat) (cy : Nat → ClassId) (v0 : Int32) (σ : zz_St) (Qp : Int32 → Prop) (h : zq7_isList v0 Qp) : zz_Mi l yX7_isList wsX7_isList zrm7_isList D (tysC cy) (wC ad cy) nwC [.int v0] σ (fun r σ2 => σ2 = σ ∧ Qp r) :=
  zz_Mi.of zz_nwC (wC_ad ad cy) (by decide +kernel) rfl ⟨rfl, rfl⟩ (Nat.le_of_ble_eq_true rfl) (fun p e s m args below meth c A QW K hret => zu7_isList_0 K  (fun r hn hq pc lv hd => hret r σ hn ⟨rfl, hq⟩ pc lv hd) h)
theorem zcCb_40 : (Int8.ofInt (40)).toInt32 = (40 : Int32) := by decide
theorem zin_X7_list_X7 : ∀ w ∈ wsX70, w ∈ wsX7_list := fun w h => List.mem_cons_of_mem _ (List.mem_append_left _ (List.mem_append_right _ h))
theorem zlk_X7_list_1 : Cond.fieldLink RX7 60 "SolidsRolled" "lists" "[LSolidsRolled$Row;" ∈ wsX7_list := List.mem_of_getElem? (i := 1) rfl
theorem zcCb_m14 : (Int8.ofInt (-14)).toInt32 = (-14 : Int32) := by decide
theorem zdsC_yX3_begin_v : yX3_begin.cls = RX3 ∧ yX3_begin.cls ≠ "java/lang/invoke/MethodHandle" ∧ yX3_begin.cls ≠ "java/lang/invoke/VarHandle" ∧ (parseMethodDescriptor yX3_begin.desc).map (fun d => d.parameters.length) = some 1 := by decide +kernel
theorem zdsC_yX7_isList_s : yX7_isList.cls ≠ "java/lang/invoke/MethodHandle" ∧ yX7_isList.cls ≠ "java/lang/invoke/VarHandle" ∧ (parseMethodDescriptor yX7_isList.desc).map (fun d => d.parameters.length) = some 1 := by decide +kernel
abbrev zrm7_list : Room := { frames := 2, cells := 0, slots := 0, locals := 44 }
set_option maxHeartbeats 4000000 in
set_option maxRecDepth 100000 in
theorem zu7_list_0 {p : Program} {l : Launch} {e : Env} {s : State} {m : MethodId} {args : Array Value} {below : List Frame} {meth : Method} {c : Code} {Q : State → Prop} {D : va_G} {A : Nat → Prop} {ad : Nat → Nat} {cy : Nat → ClassId} {v1 : Int32} {v2 : Int32} {σ : zz_St} (K : zz_K p s m args c cX7_list 3 RX7 wsX7_list D (tysC cy) A (wC ad cy) nwC) {Qp : Int32 → zz_St → Prop} (hret : ∀ (r : Int32) (σ2 : zz_St), narrow .int (.int r) = .int r → Qp r σ2 → ∀ (pc : Nat) (lv : List (Nat × Value)), decode cX7_list pc = .ok (.ireturn, 1) → zz_G p l e zrm7_list s m args below meth c Q D A (wC ad cy) 3 pc lv [.int r] σ2) (h : zq7_list v1 v2 σ Qp) : zz_G p l e zrm7_list s m args below meth c Q D A (wC ad cy) 3 0 [(0, .ref (ad 0)), (1, .int v1), (2, .int v2)] [] σ := by
  unfold zq7_list at h
  refine zz_iload_n K 1 dX7_list_0 rfl rfl ?_
  refine zz_callSi1 K zz_nwC [.int v1] (zc7_isList l D ad cy v1 σ _  h) gX7_list_X7_isList rfl ⟨rfl, rfl⟩ zdsC_yX7_isList_s ⟨Nat.le_of_ble_eq_true rfl, Nat.le_of_ble_eq_true rfl⟩ rfl rfl (Nat.le_of_ble_eq_true rfl) dX7_list_1 (fun r10 h => ?_)
  refine zz_if_ne K 13 dX7_list_4 rfl (fun c11 => ?_) (fun c11 => ?_)
  · have h := (And.left h) c11
    refine zz_iload_n K 2 dX7_list_13 rfl rfl ?_
    refine zz_bipush K dX7_list_14 zcCb_40 ?_
    refine zz_icmp_le K 26 dX7_list_16 rfl (fun c12 => ?_) (fun c12 => ?_)
    · have h := (And.left h) c12
      refine zz_iload_n K 2 dX7_list_26 rfl rfl ?_
      refine zz_if_ge K 33 dX7_list_27 rfl (fun c13 => ?_) (fun c13 => ?_)
      · have h := (And.left h) c13
        refine zz_aload_n K 0 dX7_list_33 rfl rfl ?_
        refine zg7_6_0 K zin_X7_list_X7 zlk_X7_list_1 dX7_list_34 ?_
        refine zz_iload_n K 1 dX7_list_37 rfl rfl ?_
        obtain ⟨hin, h⟩ := h
        have hj14 := zz_lt hin
        refine zz_aaload K 1 (b := ad (8 + v1.toNatClampNeg)) (wC_at_43 ad cy σ) rfl hin rfl dX7_list_38 ?_
        refine zz_iload_n K 2 dX7_list_39 rfl rfl ?_
        refine zz_callVv K zz_nwC [.int v2] (zc3_begin l D ad cy v2 (v1.toNatClampNeg) σ _ hj14 h) gX7_list_X3_begin rfl ⟨rfl, rfl⟩ zdsC_yX3_begin_v ⟨Nat.le_of_ble_eq_true rfl, Nat.le_of_ble_eq_true rfl⟩ (wC_at_8_ ad cy σ _ hj14) rfl rfl rfl rfl (Nat.le_of_ble_eq_true rfl) dX7_list_40 (fun g15 h => ?_)
        refine zz_iconst K dX7_list_43 zcCi_1 ?_
        exact hret _ _ rfl h _ _ dX7_list_44
      · have h := (And.right h) c13
        refine zz_bipush K dX7_list_30 zcCb_m14 ?_
        exact hret _ _ rfl h _ _ dX7_list_32
    · have h := (And.right h) c12
      refine zz_aload_n K 0 dX7_list_19 rfl rfl ?_
      refine zz_bipush K dX7_list_20 zcCb_m6 ?_
      refine zz_callVi K zz_nwC [.int (-6 : Int32)] (zc7_refuse l D ad cy (-6 : Int32) σ _  h) gX7_list_X7_refuse rfl ⟨rfl, rfl⟩ zdsC_yX7_refuse_v ⟨Nat.le_of_ble_eq_true rfl, Nat.le_of_ble_eq_true rfl⟩ (wC_at_0 ad cy σ) rfl rfl rfl rfl (Nat.le_of_ble_eq_true rfl) dX7_list_22 (fun r16 g17 h => ?_)
      exact hret _ _ rfl h _ _ dX7_list_25
  · have h := (And.right h) c11
    refine zz_aload_n K 0 dX7_list_7 rfl rfl ?_
    refine zz_iconst K dX7_list_8 zcCi_m1 ?_
    refine zz_callVi K zz_nwC [.int (-1 : Int32)] (zc7_refuse l D ad cy (-1 : Int32) σ _  h) gX7_list_X7_refuse rfl ⟨rfl, rfl⟩ zdsC_yX7_refuse_v ⟨Nat.le_of_ble_eq_true rfl, Nat.le_of_ble_eq_true rfl⟩ (wC_at_0 ad cy σ) rfl rfl rfl rfl (Nat.le_of_ble_eq_true rfl) dX7_list_9 (fun r18 g19 h => ?_)
    exact hret _ _ rfl h _ _ dX7_list_12
set_option maxRecDepth 100000 in
theorem zc7_list (l : Launch) (D : va_G) (ad : Nat → Nat) (cy : Nat → ClassId) (v1 : Int32) (v2 : Int32) (σ : zz_St) (Qp : Int32 → zz_St → Prop) (h : zq7_list v1 v2 σ Qp) : zz_Mi l yX7_list wsX7_list zrm7_list D (tysC cy) (wC ad cy) nwC [.ref (ad 0), .int v1, .int v2] σ Qp :=
  zz_Mi.of zz_nwC (wC_ad ad cy) (by decide +kernel) rfl ⟨rfl, rfl⟩ (Nat.le_of_ble_eq_true rfl) (fun p e s m args below meth c A QW K hret => zu7_list_0 K  hret h)
theorem zin_X7_put_X7 : ∀ w ∈ wsX70, w ∈ wsX7_put := fun w h => List.mem_cons_of_mem _ (List.mem_append_left _ (List.mem_append_right _ h))
theorem zlk_X7_put_1 : Cond.fieldLink RX7 60 "SolidsRolled" "lists" "[LSolidsRolled$Row;" ∈ wsX7_put := List.mem_of_getElem? (i := 1) rfl
theorem zin_X7_put_X3 : ∀ w ∈ wsX30, w ∈ wsX7_put := fun w h => List.mem_cons_of_mem _ (List.mem_append_right _ h)
theorem zlk_X7_put_2 : Cond.fieldLink RX7 291 "SolidsRolled$Row" "values" "[I" ∈ wsX7_put := List.mem_of_getElem? (i := 2) rfl
theorem zdsC_yX3_lackAt_v : yX3_lackAt.cls = RX3 ∧ yX3_lackAt.cls ≠ "java/lang/invoke/MethodHandle" ∧ yX3_lackAt.cls ≠ "java/lang/invoke/VarHandle" ∧ (parseMethodDescriptor yX3_lackAt.desc).map (fun d => d.parameters.length) = some 1 := by decide +kernel
abbrev zrm7_put : Room := { frames := 2, cells := 0, slots := 0, locals := 42 }
set_option maxHeartbeats 4000000 in
set_option maxRecDepth 100000 in
theorem zu7_put_0 {p : Program} {l : Launch} {e : Env} {s : State} {m : MethodId} {args : Array Value} {below : List Frame} {meth : Method} {c : Code} {Q : State → Prop} {D : va_G} {A : Nat → Prop} {ad : Nat → Nat} {cy : Nat → ClassId} {v1 : Int32} {v2 : Int32} {v3 : Int32} {σ : zz_St} (K : zz_K p s m args c cX7_put 5 RX7 wsX7_put D (tysC cy) A (wC ad cy) nwC) {Qp : Int32 → zz_St → Prop} (hret : ∀ (r : Int32) (σ2 : zz_St), narrow .int (.int r) = .int r → Qp r σ2 → ∀ (pc : Nat) (lv : List (Nat × Value)), decode cX7_put pc = .ok (.ireturn, 1) → zz_G p l e zrm7_put s m args below meth c Q D A (wC ad cy) 5 pc lv [.int r] σ2) (h : zq7_put v1 v2 v3 σ Qp) : zz_G p l e zrm7_put s m args below meth c Q D A (wC ad cy) 5 0 [(0, .ref (ad 0)), (1, .int v1), (2, .int v2), (3, .int v3)] [] σ := by
  unfold zq7_put at h
  refine zz_iload_n K 1 dX7_put_0 rfl rfl ?_
  refine zz_callSi1 K zz_nwC [.int v1] (zc7_isList l D ad cy v1 σ _  h) gX7_put_X7_isList rfl ⟨rfl, rfl⟩ zdsC_yX7_isList_s ⟨Nat.le_of_ble_eq_true rfl, Nat.le_of_ble_eq_true rfl⟩ rfl rfl (Nat.le_of_ble_eq_true rfl) dX7_put_1 (fun r8 h => ?_)
  refine zz_if_ne K 13 dX7_put_4 rfl (fun c9 => ?_) (fun c9 => ?_)
  · have h := (And.left h) c9
    refine zz_aload_n K 0 dX7_put_13 rfl rfl ?_
    refine zg7_6_0 K zin_X7_put_X7 zlk_X7_put_1 dX7_put_14 ?_
    refine zz_iload_n K 1 dX7_put_17 rfl rfl ?_
    obtain ⟨hin, h⟩ := h
    have hj10 := zz_lt hin
    refine zz_aaload K 1 (b := ad (8 + v1.toNatClampNeg)) (wC_at_43 ad cy σ) rfl hin rfl dX7_put_18 ?_
    refine zz_iload_n K 2 dX7_put_19 rfl rfl ?_
    refine zz_callVi1 K zz_nwC [.int v2] (zc3_lackAt l D ad cy v2 (v1.toNatClampNeg) σ _ hj10 h) gX7_put_X3_lackAt rfl ⟨rfl, rfl⟩ zdsC_yX3_lackAt_v ⟨Nat.le_of_ble_eq_true rfl, Nat.le_of_ble_eq_true rfl⟩ (wC_at_8_ ad cy σ _ hj10) rfl rfl rfl rfl (Nat.le_of_ble_eq_true rfl) dX7_put_20 (fun r11 h => ?_)
    refine zz_istore K [(4, .int r11), (0, .ref (ad 0)), (1, .int v1), (2, .int v2), (3, .int v3)] dX7_put_23 (by decide) rfl ?_
    refine zz_iload K 0 dX7_put_25 rfl ?_
    refine zz_if_ge K 33 dX7_put_27 rfl (fun c12 => ?_) (fun c12 => ?_)
    · have h := (And.left h) c12
      refine zz_aload_n K 1 dX7_put_33 rfl rfl ?_
      refine zg7_6_0 K zin_X7_put_X7 zlk_X7_put_1 dX7_put_34 ?_
      refine zz_iload_n K 2 dX7_put_37 rfl rfl ?_
      obtain ⟨hin, h⟩ := h
      have hj13 := zz_lt hin
      refine zz_aaload K 1 (b := ad (8 + v1.toNatClampNeg)) (wC_at_43 ad cy σ) rfl hin rfl dX7_put_38 ?_
      refine zg3_0_ K hj13 zin_X7_put_X3 zlk_X7_put_2 dX7_put_39 ?_
      refine zz_iload_n K 3 dX7_put_42 rfl rfl ?_
      refine zz_iload_n K 4 dX7_put_43 rfl rfl ?_
      obtain ⟨hin, h⟩ := h
      refine zz_iastore K 0 (σ2 := zz_A σ (34 + v1.toNatClampNeg) (upd ((σ).2.1 (34 + v1.toNatClampNeg)) v2.toNatClampNeg v3)) (wC_at_34_ ad cy σ _ hj13) (wC_set_34_ ad cy σ _ _ hj13) rfl hin dX7_put_44 ?_
      refine zz_nms (fun g14 eg14 => ?_)
      have h := h g14 eg14
      refine zz_iconst K dX7_put_45 zcCi_1 ?_
      exact hret _ _ rfl h _ _ dX7_put_46
    · have h := (And.right h) c12
      refine zz_iload K 0 dX7_put_30 rfl ?_
      exact hret _ _ rfl h _ _ dX7_put_32
  · have h := (And.right h) c9
    refine zz_aload_n K 0 dX7_put_7 rfl rfl ?_
    refine zz_iconst K dX7_put_8 zcCi_m1 ?_
    refine zz_callVi K zz_nwC [.int (-1 : Int32)] (zc7_refuse l D ad cy (-1 : Int32) σ _  h) gX7_put_X7_refuse rfl ⟨rfl, rfl⟩ zdsC_yX7_refuse_v ⟨Nat.le_of_ble_eq_true rfl, Nat.le_of_ble_eq_true rfl⟩ (wC_at_0 ad cy σ) rfl rfl rfl rfl (Nat.le_of_ble_eq_true rfl) dX7_put_9 (fun r15 g16 h => ?_)
    exact hret _ _ rfl h _ _ dX7_put_12
set_option maxRecDepth 100000 in
theorem zc7_put (l : Launch) (D : va_G) (ad : Nat → Nat) (cy : Nat → ClassId) (v1 : Int32) (v2 : Int32) (v3 : Int32) (σ : zz_St) (Qp : Int32 → zz_St → Prop) (h : zq7_put v1 v2 v3 σ Qp) : zz_Mi l yX7_put wsX7_put zrm7_put D (tysC cy) (wC ad cy) nwC [.ref (ad 0), .int v1, .int v2, .int v3] σ Qp :=
  zz_Mi.of zz_nwC (wC_ad ad cy) (by decide +kernel) rfl ⟨rfl, rfl⟩ (Nat.le_of_ble_eq_true rfl) (fun p e s m args below meth c A QW K hret => zu7_put_0 K  hret h)
theorem zin_X7_look_X7 : ∀ w ∈ wsX70, w ∈ wsX7_look := fun w h => List.mem_cons_of_mem _ (List.mem_append_left _ (List.mem_append_right _ h))
theorem zlk_X7_look_1 : Cond.fieldLink RX7 60 "SolidsRolled" "lists" "[LSolidsRolled$Row;" ∈ wsX7_look := List.mem_of_getElem? (i := 1) rfl
theorem zin_X7_look_X3 : ∀ w ∈ wsX30, w ∈ wsX7_look := fun w h => List.mem_cons_of_mem _ (List.mem_append_right _ h)
theorem zlk_X7_look_3 : Cond.fieldLink RX7 291 "SolidsRolled$Row" "values" "[I" ∈ wsX7_look := List.mem_of_getElem? (i := 3) rfl
theorem zlk_X7_look_2 : Cond.constantLong RX7 294 (4000000000000000000) ∈ wsX7_look := List.mem_of_getElem? (i := 2) rfl
abbrev zrm7_look : Room := { frames := 2, cells := 0, slots := 0, locals := 43 }
set_option maxHeartbeats 4000000 in
set_option maxRecDepth 100000 in
theorem zu7_look_0 {p : Program} {l : Launch} {e : Env} {s : State} {m : MethodId} {args : Array Value} {below : List Frame} {meth : Method} {c : Code} {Q : State → Prop} {D : va_G} {A : Nat → Prop} {ad : Nat → Nat} {cy : Nat → ClassId} {v1 : Int32} {v2 : Int32} {σ : zz_St} (K : zz_K p s m args c cX7_look 4 RX7 wsX7_look D (tysC cy) A (wC ad cy) nwC) {Qp : Int64 → zz_St → Prop} (hret : ∀ (r : Int64) (σ2 : zz_St), Qp r σ2 → ∀ (pc : Nat) (lv : List (Nat × Value)), decode cX7_look pc = .ok (.lreturn, 1) → zz_G p l e zrm7_look s m args below meth c Q D A (wC ad cy) 4 pc lv [.long r] σ2) (h : zq7_look v1 v2 σ Qp) : zz_G p l e zrm7_look s m args below meth c Q D A (wC ad cy) 4 0 [(0, .ref (ad 0)), (1, .int v1), (2, .int v2)] [] σ := by
  unfold zq7_look at h
  refine zz_iload_n K 1 dX7_look_0 rfl rfl ?_
  refine zz_callSi1 K zz_nwC [.int v1] (zc7_isList l D ad cy v1 σ _  h) gX7_look_X7_isList rfl ⟨rfl, rfl⟩ zdsC_yX7_isList_s ⟨Nat.le_of_ble_eq_true rfl, Nat.le_of_ble_eq_true rfl⟩ rfl rfl (Nat.le_of_ble_eq_true rfl) dX7_look_1 (fun r7 h => ?_)
  refine zz_if_ne K 13 dX7_look_4 rfl (fun c8 => ?_) (fun c8 => ?_)
  · have h := (And.left h) c8
    refine zz_aload_n K 0 dX7_look_13 rfl rfl ?_
    refine zg7_6_0 K zin_X7_look_X7 zlk_X7_look_1 dX7_look_14 ?_
    refine zz_iload_n K 1 dX7_look_17 rfl rfl ?_
    obtain ⟨hin, h⟩ := h
    have hj9 := zz_lt hin
    refine zz_aaload K 1 (b := ad (8 + v1.toNatClampNeg)) (wC_at_43 ad cy σ) rfl hin rfl dX7_look_18 ?_
    refine zz_iload_n K 2 dX7_look_19 rfl rfl ?_
    refine zz_callVi1 K zz_nwC [.int v2] (zc3_lackAt l D ad cy v2 (v1.toNatClampNeg) σ _ hj9 h) gX7_look_X3_lackAt rfl ⟨rfl, rfl⟩ zdsC_yX3_lackAt_v ⟨Nat.le_of_ble_eq_true rfl, Nat.le_of_ble_eq_true rfl⟩ (wC_at_8_ ad cy σ _ hj9) rfl rfl rfl rfl (Nat.le_of_ble_eq_true rfl) dX7_look_20 (fun r10 h => ?_)
    refine zz_istore_n K [(3, .int r10), (0, .ref (ad 0)), (1, .int v1), (2, .int v2)] dX7_look_23 rfl (by decide) rfl ?_
    refine zz_iload_n K 0 dX7_look_24 rfl rfl ?_
    refine zz_if_ge K 37 dX7_look_25 rfl (fun c11 => ?_) (fun c11 => ?_)
    · have h := (And.left h) c11
      refine zz_aload_n K 1 dX7_look_37 rfl rfl ?_
      refine zg7_6_0 K zin_X7_look_X7 zlk_X7_look_1 dX7_look_38 ?_
      refine zz_iload_n K 2 dX7_look_41 rfl rfl ?_
      obtain ⟨hin, h⟩ := h
      have hj12 := zz_lt hin
      refine zz_aaload K 1 (b := ad (8 + v1.toNatClampNeg)) (wC_at_43 ad cy σ) rfl hin rfl dX7_look_42 ?_
      refine zg3_0_ K hj12 zin_X7_look_X3 zlk_X7_look_3 dX7_look_43 ?_
      refine zz_iload_n K 3 dX7_look_46 rfl rfl ?_
      obtain ⟨hin, h⟩ := h
      refine zz_iaload K 0 (wC_at_34_ ad cy σ _ hj12) rfl hin dX7_look_47 ?_
      refine zz_i2l K dX7_look_48 ?_
      exact hret _ _ h _ _ dX7_look_49
    · have h := (And.right h) c11
      refine zz_ldc2 K zlk_X7_look_2 dX7_look_28 ?_
      refine zz_iload_n K 0 dX7_look_31 rfl rfl ?_
      refine zz_i2l K dX7_look_32 ?_
      refine zz_lsub K dX7_look_33 ?_
      refine zz_goto K 49 dX7_look_34 rfl ?_
      exact hret _ _ h _ _ dX7_look_49
  · have h := (And.right h) c8
    refine zz_aload_n K 0 dX7_look_7 rfl rfl ?_
    refine zz_iconst K dX7_look_8 zcCi_m1 ?_
    refine zz_callVl K zz_nwC [.int (-1 : Int32)] (zc7_refuseLong l D ad cy (-1 : Int32) σ _  h) gX7_look_X7_refuseLong rfl ⟨rfl, rfl⟩ zdsC_yX7_refuseLong_v ⟨Nat.le_of_ble_eq_true rfl, Nat.le_of_ble_eq_true rfl⟩ (wC_at_0 ad cy σ) rfl rfl rfl rfl (Nat.le_of_ble_eq_true rfl) dX7_look_9 (fun r13 g14 h => ?_)
    exact hret _ _ h _ _ dX7_look_12
set_option maxRecDepth 100000 in
theorem zc7_look (l : Launch) (D : va_G) (ad : Nat → Nat) (cy : Nat → ClassId) (v1 : Int32) (v2 : Int32) (σ : zz_St) (Qp : Int64 → zz_St → Prop) (h : zq7_look v1 v2 σ Qp) : zz_Ml l yX7_look wsX7_look zrm7_look D (tysC cy) (wC ad cy) nwC [.ref (ad 0), .int v1, .int v2] σ Qp :=
  zz_Ml.of zz_nwC (wC_ad ad cy) (by decide +kernel) rfl ⟨rfl, rfl⟩ (Nat.le_of_ble_eq_true rfl) (fun p e s m args below meth c A QW K hret => zu7_look_0 K  hret h)
theorem zin_X7_lays_X7 : ∀ w ∈ wsX70, w ∈ wsX7_lays := fun w h => List.mem_cons_of_mem _ (List.mem_append_left _ (List.mem_append_left _ (List.mem_append_right _ h)))
theorem zlk_X7_lays_1 : Cond.fieldLink RX7 60 "SolidsRolled" "lists" "[LSolidsRolled$Row;" ∈ wsX7_lays := List.mem_of_getElem? (i := 1) rfl
theorem zlk_X7_lays_2 : Cond.fieldLink RX7 26 "SolidsRolled" "world" "LSolidsRolled$World;" ∈ wsX7_lays := List.mem_of_getElem? (i := 2) rfl
theorem zin_X7_lays_X3 : ∀ w ∈ wsX30, w ∈ wsX7_lays := fun w h => List.mem_cons_of_mem _ (List.mem_append_left _ (List.mem_append_right _ h))
theorem zlk_X7_lays_3 : Cond.fieldLink RX7 291 "SolidsRolled$Row" "values" "[I" ∈ wsX7_lays := List.mem_of_getElem? (i := 3) rfl
theorem zin_X7_lays_X6 : ∀ w ∈ wsX60, w ∈ wsX7_lays := fun w h => List.mem_cons_of_mem _ (List.mem_append_right _ h)
theorem zlk_X7_lays_4 : Cond.fieldLink RX7 121 "SolidsRolled$World" "prints" "[I" ∈ wsX7_lays := List.mem_of_getElem? (i := 4) rfl
abbrev zrm7_lays : Room := { frames := 2, cells := 0, slots := 0, locals := 42 }
set_option maxHeartbeats 4000000 in
set_option maxRecDepth 100000 in
theorem zu7_lays_51 {p : Program} {l : Launch} {e : Env} {s : State} {m : MethodId} {args : Array Value} {below : List Frame} {meth : Method} {c : Code} {Q : State → Prop} {D : va_G} {A : Nat → Prop} {ad : Nat → Nat} {cy : Nat → ClassId} {v2 : Int32} {v3 : Nat} {v4 : Int32} {s0 : Int32} {s1 : Nat} {σ : zz_St} (K : zz_K p s m args c cX7_lays 6 RX7 wsX7_lays D (tysC cy) A (wC ad cy) nwC) {Qp : Int32 → zz_St → Prop} (hv3 : v3 < 3) (hs1 : s1 < 3) (hret : ∀ (r : Int32) (σ2 : zz_St), narrow .int (.int r) = .int r → Qp r σ2 → ∀ (pc : Nat) (lv : List (Nat × Value)), decode cX7_lays pc = .ok (.ireturn, 1) → zz_G p l e zrm7_lays s m args below meth c Q D A (wC ad cy) 6 pc lv [.int r] σ2) {B23 : Int32 → zz_St → Prop} (hB23 : ∀ (v4' : Int32) (σ' : zz_St), B23 v4' σ' → zz_G p l e zrm7_lays s m args below meth c Q D A (wC ad cy) 6 23 [(0, .ref (ad 0)), (2, .int v2), (3, .ref (ad (8 + v3))), (4, .int v4')] [] σ') (h : zq7_lays_51 v2 v3 v4 s0 s1 σ Qp B23) : zz_G p l e zrm7_lays s m args below meth c Q D A (wC ad cy) 6 51 [(0, .ref (ad 0)), (2, .int v2), (3, .ref (ad (8 + v3))), (4, .int v4)] [.int s0, .ref (ad (8 + s1))] σ := by
  unfold zq7_lays_51 at h
  refine zz_callVi1 K zz_nwC [.int s0] (zc3_lackAt l D ad cy s0 s1 σ _ hs1 h) gX7_lays_X3_lackAt rfl ⟨rfl, rfl⟩ zdsC_yX3_lackAt_v ⟨Nat.le_of_ble_eq_true rfl, Nat.le_of_ble_eq_true rfl⟩ (wC_at_8_ ad cy σ _ hs1) rfl rfl rfl rfl (Nat.le_of_ble_eq_true rfl) dX7_lays_51 (fun r12 h => ?_)
  refine zz_istore K [(5, .int r12), (0, .ref (ad 0)), (2, .int v2), (3, .ref (ad (8 + v3))), (4, .int v4)] dX7_lays_54 (by decide) rfl ?_
  refine zz_iload K 0 dX7_lays_56 rfl ?_
  refine zz_if_ge K 64 dX7_lays_58 rfl (fun c13 => ?_) (fun c13 => ?_)
  · have h := (And.left h) c13
    refine zz_aload_n K 3 dX7_lays_64 rfl rfl ?_
    refine zg3_0_ K hv3 zin_X7_lays_X3 zlk_X7_lays_3 dX7_lays_65 ?_
    refine zz_iload_n K 2 dX7_lays_68 rfl rfl ?_
    refine zz_iload K 4 dX7_lays_69 rfl ?_
    refine zz_iadd K dX7_lays_71 ?_
    refine zz_aload_n K 1 dX7_lays_72 rfl rfl ?_
    refine zg7_0_0 K zin_X7_lays_X7 zlk_X7_lays_2 dX7_lays_73 ?_
    refine zg6_3_0 K zin_X7_lays_X6 zlk_X7_lays_4 dX7_lays_76 ?_
    refine zz_iload K 4 dX7_lays_79 rfl ?_
    obtain ⟨hin, h⟩ := h
    refine zz_iaload K 0 (wC_at_16 ad cy σ) rfl hin dX7_lays_81 ?_
    obtain ⟨hin, h⟩ := h
    refine zz_iastore K 0 (σ2 := zz_A σ (34 + v3) (upd ((σ).2.1 (34 + v3)) (v2 + v4).toNatClampNeg ((σ).2.1 16 v4.toNatClampNeg))) (wC_at_34_ ad cy σ _ hv3) (wC_set_34_ ad cy σ _ _ hv3) rfl hin dX7_lays_82 ?_
    refine zz_nms (fun g14 eg14 => ?_)
    have h := h g14 eg14
    refine zz_iinc K 4 [(4, .int (v4 + (1 : Int32))), (5, .int r12), (0, .ref (ad 0)), (2, .int v2), (3, .ref (ad (8 + v3)))] dX7_lays_83 zcCi_1 rfl (by decide) rfl ?_
    refine zz_goto K 23 dX7_lays_86 rfl ?_
    refine zz_sub [2, 3, 4, 0] [(0, .ref (ad 0)), (2, .int v2), (3, .ref (ad (8 + v3))), (4, .int (v4 + (1 : Int32)))] rfl ?_
    exact hB23 (v4 + (1 : Int32)) g14 h
  · have h := (And.right h) c13
    refine zz_iload K 0 dX7_lays_61 rfl ?_
    exact hret _ _ rfl h _ _ dX7_lays_63
set_option maxHeartbeats 4000000 in
set_option maxRecDepth 100000 in
theorem zu7_lays_23 {p : Program} {l : Launch} {e : Env} {s : State} {m : MethodId} {args : Array Value} {below : List Frame} {meth : Method} {c : Code} {Q : State → Prop} {D : va_G} {A : Nat → Prop} {ad : Nat → Nat} {cy : Nat → ClassId} {v2 : Int32} {v3 : Nat} {v4 : Int32} {σ : zz_St} (K : zz_K p s m args c cX7_lays 6 RX7 wsX7_lays D (tysC cy) A (wC ad cy) nwC) {Qp : Int32 → zz_St → Prop} (hv3 : v3 < 3) (hret : ∀ (r : Int32) (σ2 : zz_St), narrow .int (.int r) = .int r → Qp r σ2 → ∀ (pc : Nat) (lv : List (Nat × Value)), decode cX7_lays pc = .ok (.ireturn, 1) → zz_G p l e zrm7_lays s m args below meth c Q D A (wC ad cy) 6 pc lv [.int r] σ2) (h : zq7_lays_23 v2 v3 v4 σ Qp) : zz_G p l e zrm7_lays s m args below meth c Q D A (wC ad cy) 6 23 [(0, .ref (ad 0)), (2, .int v2), (3, .ref (ad (8 + v3))), (4, .int v4)] [] σ := by
  unfold zq7_lays_23 at h
  obtain ⟨I23, M23, h0, hs⟩ := h
  have key : ∀ (nq : Nat) (v4 : Int32) (σ : zz_St), M23 v4 σ < nq → I23 v4 σ → zz_G p l e zrm7_lays s m args below meth c Q D A (wC ad cy) 6 23 [(0, .ref (ad 0)), (2, .int v2), (3, .ref (ad (8 + v3))), (4, .int v4)] [] σ := by
    intro nq
    induction nq with
    | zero => intro v4 σ hlt; exact absurd hlt (Nat.not_lt_zero _)
    | succ nq ih =>
      intro v4 σ hlt hI
      have h := hs v4 σ hI
      have hB23 : ∀ (v4' : Int32) (σ' : zz_St), (fun v4' σ' => I23 v4' σ' ∧ M23 v4' σ' < M23 v4 σ) v4' σ' → zz_G p l e zrm7_lays s m args below meth c Q D A (wC ad cy) 6 23 [(0, .ref (ad 0)), (2, .int v2), (3, .ref (ad (8 + v3))), (4, .int v4')] [] σ' := fun v4' σ' hz => ih v4' σ' (Nat.lt_of_lt_of_le hz.2 (Nat.le_of_lt_succ hlt)) hz.1
      refine zz_iload K 3 dX7_lays_23 rfl ?_
      refine zz_aload_n K 0 dX7_lays_25 rfl rfl ?_
      refine zg7_0_0 K zin_X7_lays_X7 zlk_X7_lays_2 dX7_lays_26 ?_
      refine zz_callVi1 K zz_nwC [] (zc6_tileCount l D ad cy  σ _  h) gX7_lays_X6_tileCount rfl ⟨rfl, rfl⟩ zdsC_yX6_tileCount_v ⟨Nat.le_of_ble_eq_true rfl, Nat.le_of_ble_eq_true rfl⟩ (wC_at_1 ad cy σ) rfl rfl rfl rfl (Nat.le_of_ble_eq_true rfl) dX7_lays_29 (fun r15 h => ?_)
      refine zz_icmp_ge K 89 dX7_lays_32 rfl (fun c16 => ?_) (fun c16 => ?_)
      · have h := (And.left h) c16
        refine zz_aload_n K 0 dX7_lays_89 rfl rfl ?_
        refine zg7_0_0 K zin_X7_lays_X7 zlk_X7_lays_2 dX7_lays_90 ?_
        refine zz_callVi1 K zz_nwC [] (zc6_tileCount l D ad cy  σ _  h) gX7_lays_X6_tileCount rfl ⟨rfl, rfl⟩ zdsC_yX6_tileCount_v ⟨Nat.le_of_ble_eq_true rfl, Nat.le_of_ble_eq_true rfl⟩ (wC_at_1 ad cy σ) rfl rfl rfl rfl (Nat.le_of_ble_eq_true rfl) dX7_lays_93 (fun r17 h => ?_)
        exact hret _ _ rfl h _ _ dX7_lays_96
      · have h := (And.right h) c16
        refine zz_aload_n K 2 dX7_lays_35 rfl rfl ?_
        refine zz_iload_n K 1 dX7_lays_36 rfl rfl ?_
        refine zz_bipush K dX7_lays_37 zcCb_40 ?_
        refine zz_icmp_le K 47 dX7_lays_39 rfl (fun c18 => ?_) (fun c18 => ?_)
        · have h := (And.left h) c18
          refine zz_iload_n K 1 dX7_lays_47 rfl rfl ?_
          refine zz_iload K 3 dX7_lays_48 rfl ?_
          refine zz_iadd K dX7_lays_50 ?_
          exact zu7_lays_51 K hv3 hv3 hret hB23 h
        · have h := (And.right h) c18
          refine zz_bipush K dX7_lays_42 zcCb_40 ?_
          refine zz_goto K 51 dX7_lays_44 rfl ?_
          exact zu7_lays_51 K hv3 hv3 hret hB23 h
  exact key _ v4 σ (Nat.lt_succ_self _) h0
set_option maxHeartbeats 4000000 in
set_option maxRecDepth 100000 in
theorem zu7_lays_0 {p : Program} {l : Launch} {e : Env} {s : State} {m : MethodId} {args : Array Value} {below : List Frame} {meth : Method} {c : Code} {Q : State → Prop} {D : va_G} {A : Nat → Prop} {ad : Nat → Nat} {cy : Nat → ClassId} {v1 : Int32} {v2 : Int32} {σ : zz_St} (K : zz_K p s m args c cX7_lays 6 RX7 wsX7_lays D (tysC cy) A (wC ad cy) nwC) {Qp : Int32 → zz_St → Prop} (hret : ∀ (r : Int32) (σ2 : zz_St), narrow .int (.int r) = .int r → Qp r σ2 → ∀ (pc : Nat) (lv : List (Nat × Value)), decode cX7_lays pc = .ok (.ireturn, 1) → zz_G p l e zrm7_lays s m args below meth c Q D A (wC ad cy) 6 pc lv [.int r] σ2) (h : zq7_lays v1 v2 σ Qp) : zz_G p l e zrm7_lays s m args below meth c Q D A (wC ad cy) 6 0 [(0, .ref (ad 0)), (1, .int v1), (2, .int v2)] [] σ := by
  unfold zq7_lays at h
  refine zz_iload_n K 1 dX7_lays_0 rfl rfl ?_
  refine zz_callSi1 K zz_nwC [.int v1] (zc7_isList l D ad cy v1 σ _  h) gX7_lays_X7_isList rfl ⟨rfl, rfl⟩ zdsC_yX7_isList_s ⟨Nat.le_of_ble_eq_true rfl, Nat.le_of_ble_eq_true rfl⟩ rfl rfl (Nat.le_of_ble_eq_true rfl) dX7_lays_1 (fun r19 h => ?_)
  refine zz_if_ne K 13 dX7_lays_4 rfl (fun c20 => ?_) (fun c20 => ?_)
  · have h := (And.left h) c20
    refine zz_aload_n K 0 dX7_lays_13 rfl rfl ?_
    refine zg7_6_0 K zin_X7_lays_X7 zlk_X7_lays_1 dX7_lays_14 ?_
    refine zz_iload_n K 1 dX7_lays_17 rfl rfl ?_
    obtain ⟨hin, h⟩ := h
    have hj21 := zz_lt hin
    refine zz_aaload K 1 (b := ad (8 + v1.toNatClampNeg)) (wC_at_43 ad cy σ) rfl hin rfl dX7_lays_18 ?_
    refine zz_astore_n K [(3, .ref (ad (8 + v1.toNatClampNeg))), (0, .ref (ad 0)), (1, .int v1), (2, .int v2)] dX7_lays_19 rfl (by decide) rfl ?_
    refine zz_iconst K dX7_lays_20 zcCi_0 ?_
    refine zz_istore K [(4, .int (0 : Int32)), (3, .ref (ad (8 + v1.toNatClampNeg))), (0, .ref (ad 0)), (1, .int v1), (2, .int v2)] dX7_lays_21 (by decide) rfl ?_
    refine zz_sub [2, 4, 1, 0] [(0, .ref (ad 0)), (2, .int v2), (3, .ref (ad (8 + v1.toNatClampNeg))), (4, .int (0 : Int32))] rfl ?_
    exact zu7_lays_23 K hj21 hret h
  · have h := (And.right h) c20
    refine zz_aload_n K 0 dX7_lays_7 rfl rfl ?_
    refine zz_iconst K dX7_lays_8 zcCi_m1 ?_
    refine zz_callVi K zz_nwC [.int (-1 : Int32)] (zc7_refuse l D ad cy (-1 : Int32) σ _  h) gX7_lays_X7_refuse rfl ⟨rfl, rfl⟩ zdsC_yX7_refuse_v ⟨Nat.le_of_ble_eq_true rfl, Nat.le_of_ble_eq_true rfl⟩ (wC_at_0 ad cy σ) rfl rfl rfl rfl (Nat.le_of_ble_eq_true rfl) dX7_lays_9 (fun r22 g23 h => ?_)
    exact hret _ _ rfl h _ _ dX7_lays_12
set_option maxRecDepth 100000 in
theorem zc7_lays (l : Launch) (D : va_G) (ad : Nat → Nat) (cy : Nat → ClassId) (v1 : Int32) (v2 : Int32) (σ : zz_St) (Qp : Int32 → zz_St → Prop) (h : zq7_lays v1 v2 σ Qp) : zz_Mi l yX7_lays wsX7_lays zrm7_lays D (tysC cy) (wC ad cy) nwC [.ref (ad 0), .int v1, .int v2] σ Qp :=
  zz_Mi.of zz_nwC (wC_ad ad cy) (by decide +kernel) rfl ⟨rfl, rfl⟩ (Nat.le_of_ble_eq_true rfl) (fun p e s m args below meth c A QW K hret => zu7_lays_0 K  hret h)
theorem zin_X7_tells_X7 : ∀ w ∈ wsX70, w ∈ wsX7_tells := fun w h => List.mem_cons_of_mem _ (List.mem_append_left _ (List.mem_append_left _ (List.mem_append_right _ h)))
theorem zlk_X7_tells_1 : Cond.fieldLink RX7 60 "SolidsRolled" "lists" "[LSolidsRolled$Row;" ∈ wsX7_tells := List.mem_of_getElem? (i := 1) rfl
theorem zin_X7_tells_X3 : ∀ w ∈ wsX30, w ∈ wsX7_tells := fun w h => List.mem_cons_of_mem _ (List.mem_append_left _ (List.mem_append_right _ h))
theorem zlk_X7_tells_2 : Cond.fieldLink RX7 299 "SolidsRolled$Row" "size" "I" ∈ wsX7_tells := List.mem_of_getElem? (i := 2) rfl
theorem zlk_X7_tells_3 : Cond.fieldLink RX7 26 "SolidsRolled" "world" "LSolidsRolled$World;" ∈ wsX7_tells := List.mem_of_getElem? (i := 3) rfl
theorem zlk_X7_tells_4 : Cond.fieldLink RX7 291 "SolidsRolled$Row" "values" "[I" ∈ wsX7_tells := List.mem_of_getElem? (i := 4) rfl
theorem zin_X7_tells_X6 : ∀ w ∈ wsX60, w ∈ wsX7_tells := fun w h => List.mem_cons_of_mem _ (List.mem_append_right _ h)
theorem zlk_X7_tells_5 : Cond.fieldLink RX7 121 "SolidsRolled$World" "prints" "[I" ∈ wsX7_tells := List.mem_of_getElem? (i := 5) rfl
theorem zdsC_yX3_isMissing_v : yX3_isMissing.cls = RX3 ∧ yX3_isMissing.cls ≠ "java/lang/invoke/MethodHandle" ∧ yX3_isMissing.cls ≠ "java/lang/invoke/VarHandle" ∧ (parseMethodDescriptor yX3_isMissing.desc).map (fun d => d.parameters.length) = some 0 := by decide +kernel
abbrev zrm7_tells : Room := { frames := 2, cells := 0, slots := 0, locals := 41 }
set_option maxHeartbeats 4000000 in
set_option maxRecDepth 100000 in
theorem zu7_tells_32 {p : Program} {l : Launch} {e : Env} {s : State} {m : MethodId} {args : Array Value} {below : List Frame} {meth : Method} {c : Code} {Q : State → Prop} {D : va_G} {A : Nat → Prop} {ad : Nat → Nat} {cy : Nat → ClassId} {v2 : Nat} {v3 : Int32} {σ : zz_St} (K : zz_K p s m args c cX7_tells 4 RX7 wsX7_tells D (tysC cy) A (wC ad cy) nwC) {Qp : Int32 → zz_St → Prop} (hv2 : v2 < 3) (hret : ∀ (r : Int32) (σ2 : zz_St), narrow .int (.int r) = .int r → Qp r σ2 → ∀ (pc : Nat) (lv : List (Nat × Value)), decode cX7_tells pc = .ok (.ireturn, 1) → zz_G p l e zrm7_tells s m args below meth c Q D A (wC ad cy) 4 pc lv [.int r] σ2) (h : zq7_tells_32 v2 v3 σ Qp) : zz_G p l e zrm7_tells s m args below meth c Q D A (wC ad cy) 4 32 [(0, .ref (ad 0)), (2, .ref (ad (8 + v2))), (3, .int v3)] [] σ := by
  unfold zq7_tells_32 at h
  obtain ⟨I32, M32, h0, hs⟩ := h
  have key : ∀ (nq : Nat) (v3 : Int32), M32 v3 < nq → I32 v3 → zz_G p l e zrm7_tells s m args below meth c Q D A (wC ad cy) 4 32 [(0, .ref (ad 0)), (2, .ref (ad (8 + v2))), (3, .int v3)] [] σ := by
    intro nq
    induction nq with
    | zero => intro v3 hlt; exact absurd hlt (Nat.not_lt_zero _)
    | succ nq ih =>
      intro v3 hlt hI
      have h := hs v3 hI
      have hB32 : ∀ (v3' : Int32), (fun v3' => I32 v3' ∧ M32 v3' < M32 v3) v3' → zz_G p l e zrm7_tells s m args below meth c Q D A (wC ad cy) 4 32 [(0, .ref (ad 0)), (2, .ref (ad (8 + v2))), (3, .int v3')] [] σ := fun v3' hz => ih v3' (Nat.lt_of_lt_of_le hz.2 (Nat.le_of_lt_succ hlt)) hz.1
      refine zz_iload_n K 2 dX7_tells_32 rfl rfl ?_
      refine zz_aload_n K 1 dX7_tells_33 rfl rfl ?_
      refine zg3_1_ K hv2 zin_X7_tells_X3 zlk_X7_tells_2 dX7_tells_34 ?_
      refine zz_icmp_ge K 77 dX7_tells_37 rfl (fun c11 => ?_) (fun c11 => ?_)
      · have h := (And.left h) c11
        refine zz_bipush K dX7_tells_77 zcCb_m9 ?_
        exact hret _ _ rfl h _ _ dX7_tells_79
      · have h := (And.right h) c11
        refine zz_aload_n K 0 dX7_tells_40 rfl rfl ?_
        refine zg7_0_0 K zin_X7_tells_X7 zlk_X7_tells_3 dX7_tells_41 ?_
        refine zz_iload_n K 2 dX7_tells_44 rfl rfl ?_
        refine zz_callVi1 K zz_nwC [.int v3] (zc6_hasTile l D ad cy v3 σ _  h) gX7_tells_X6_hasTile rfl ⟨rfl, rfl⟩ zdsC_yX6_hasTile_v ⟨Nat.le_of_ble_eq_true rfl, Nat.le_of_ble_eq_true rfl⟩ (wC_at_1 ad cy σ) rfl rfl rfl rfl (Nat.le_of_ble_eq_true rfl) dX7_tells_45 (fun r12 h => ?_)
        refine zz_if_eq K 69 dX7_tells_48 rfl (fun c13 => ?_) (fun c13 => ?_)
        · have h := (And.left h) c13
          refine zz_iload_n K 2 dX7_tells_69 rfl rfl ?_
          exact hret _ _ rfl h _ _ dX7_tells_70
        · have h := (And.right h) c13
          refine zz_aload_n K 1 dX7_tells_51 rfl rfl ?_
          refine zg3_0_ K hv2 zin_X7_tells_X3 zlk_X7_tells_4 dX7_tells_52 ?_
          refine zz_iload_n K 2 dX7_tells_55 rfl rfl ?_
          obtain ⟨hin, h⟩ := h
          refine zz_iaload K 0 (wC_at_34_ ad cy σ _ hv2) rfl hin dX7_tells_56 ?_
          refine zz_aload_n K 0 dX7_tells_57 rfl rfl ?_
          refine zg7_0_0 K zin_X7_tells_X7 zlk_X7_tells_3 dX7_tells_58 ?_
          refine zg6_3_0 K zin_X7_tells_X6 zlk_X7_tells_5 dX7_tells_61 ?_
          refine zz_iload_n K 2 dX7_tells_64 rfl rfl ?_
          obtain ⟨hin, h⟩ := h
          refine zz_iaload K 0 (wC_at_16 ad cy σ) rfl hin dX7_tells_65 ?_
          refine zz_icmp_eq K 71 dX7_tells_66 rfl (fun c14 => ?_) (fun c14 => ?_)
          · have h := (And.left h) c14
            refine zz_iinc K 2 [(3, .int (v3 + (1 : Int32))), (0, .ref (ad 0)), (2, .ref (ad (8 + v2)))] dX7_tells_71 zcCi_1 rfl (by decide) rfl ?_
            refine zz_goto K 32 dX7_tells_74 rfl ?_
            refine zz_sub [1, 2, 0] [(0, .ref (ad 0)), (2, .ref (ad (8 + v2))), (3, .int (v3 + (1 : Int32)))] rfl ?_
            exact hB32 (v3 + (1 : Int32)) h
          · have h := (And.right h) c14
            refine zz_iload_n K 2 dX7_tells_69 rfl rfl ?_
            exact hret _ _ rfl h _ _ dX7_tells_70
  exact key _ v3 (Nat.lt_succ_self _) h0
set_option maxHeartbeats 4000000 in
set_option maxRecDepth 100000 in
theorem zu7_tells_0 {p : Program} {l : Launch} {e : Env} {s : State} {m : MethodId} {args : Array Value} {below : List Frame} {meth : Method} {c : Code} {Q : State → Prop} {D : va_G} {A : Nat → Prop} {ad : Nat → Nat} {cy : Nat → ClassId} {v1 : Int32} {σ : zz_St} (K : zz_K p s m args c cX7_tells 4 RX7 wsX7_tells D (tysC cy) A (wC ad cy) nwC) {Qp : Int32 → zz_St → Prop} (hret : ∀ (r : Int32) (σ2 : zz_St), narrow .int (.int r) = .int r → Qp r σ2 → ∀ (pc : Nat) (lv : List (Nat × Value)), decode cX7_tells pc = .ok (.ireturn, 1) → zz_G p l e zrm7_tells s m args below meth c Q D A (wC ad cy) 4 pc lv [.int r] σ2) (h : zq7_tells v1 σ Qp) : zz_G p l e zrm7_tells s m args below meth c Q D A (wC ad cy) 4 0 [(0, .ref (ad 0)), (1, .int v1)] [] σ := by
  unfold zq7_tells at h
  refine zz_iload_n K 1 dX7_tells_0 rfl rfl ?_
  refine zz_callSi1 K zz_nwC [.int v1] (zc7_isList l D ad cy v1 σ _  h) gX7_tells_X7_isList rfl ⟨rfl, rfl⟩ zdsC_yX7_isList_s ⟨Nat.le_of_ble_eq_true rfl, Nat.le_of_ble_eq_true rfl⟩ rfl rfl (Nat.le_of_ble_eq_true rfl) dX7_tells_1 (fun r15 h => ?_)
  refine zz_if_ne K 13 dX7_tells_4 rfl (fun c16 => ?_) (fun c16 => ?_)
  · have h := (And.left h) c16
    refine zz_aload_n K 0 dX7_tells_13 rfl rfl ?_
    refine zg7_6_0 K zin_X7_tells_X7 zlk_X7_tells_1 dX7_tells_14 ?_
    refine zz_iload_n K 1 dX7_tells_17 rfl rfl ?_
    obtain ⟨hin, h⟩ := h
    have hj17 := zz_lt hin
    refine zz_aaload K 1 (b := ad (8 + v1.toNatClampNeg)) (wC_at_43 ad cy σ) rfl hin rfl dX7_tells_18 ?_
    refine zz_astore_n K [(2, .ref (ad (8 + v1.toNatClampNeg))), (0, .ref (ad 0)), (1, .int v1)] dX7_tells_19 rfl (by decide) rfl ?_
    refine zz_aload_n K 0 dX7_tells_20 rfl rfl ?_
    refine zz_callVi1 K zz_nwC [] (zc3_isMissing l D ad cy (v1.toNatClampNeg) σ _ hj17 h) gX7_tells_X3_isMissing rfl ⟨rfl, rfl⟩ zdsC_yX3_isMissing_v ⟨Nat.le_of_ble_eq_true rfl, Nat.le_of_ble_eq_true rfl⟩ (wC_at_8_ ad cy σ _ hj17) rfl rfl rfl rfl (Nat.le_of_ble_eq_true rfl) dX7_tells_21 (fun r18 h => ?_)
    refine zz_if_eq K 30 dX7_tells_24 rfl (fun c19 => ?_) (fun c19 => ?_)
    · have h := (And.left h) c19
      refine zz_iconst K dX7_tells_30 zcCi_0 ?_
      refine zz_istore_n K [(3, .int (0 : Int32)), (2, .ref (ad (8 + v1.toNatClampNeg))), (0, .ref (ad 0)), (1, .int v1)] dX7_tells_31 rfl (by decide) rfl ?_
      refine zz_sub [2, 1, 0] [(0, .ref (ad 0)), (2, .ref (ad (8 + v1.toNatClampNeg))), (3, .int (0 : Int32))] rfl ?_
      exact zu7_tells_32 K hj17 hret h
    · have h := (And.right h) c19
      refine zz_bipush K dX7_tells_27 zcCb_m11 ?_
      exact hret _ _ rfl h _ _ dX7_tells_29
  · have h := (And.right h) c16
    refine zz_aload_n K 0 dX7_tells_7 rfl rfl ?_
    refine zz_iconst K dX7_tells_8 zcCi_m1 ?_
    refine zz_callVi K zz_nwC [.int (-1 : Int32)] (zc7_refuse l D ad cy (-1 : Int32) σ _  h) gX7_tells_X7_refuse rfl ⟨rfl, rfl⟩ zdsC_yX7_refuse_v ⟨Nat.le_of_ble_eq_true rfl, Nat.le_of_ble_eq_true rfl⟩ (wC_at_0 ad cy σ) rfl rfl rfl rfl (Nat.le_of_ble_eq_true rfl) dX7_tells_9 (fun r20 g21 h => ?_)
    exact hret _ _ rfl h _ _ dX7_tells_12
set_option maxRecDepth 100000 in
theorem zc7_tells (l : Launch) (D : va_G) (ad : Nat → Nat) (cy : Nat → ClassId) (v1 : Int32) (σ : zz_St) (Qp : Int32 → zz_St → Prop) (h : zq7_tells v1 σ Qp) : zz_Mi l yX7_tells wsX7_tells zrm7_tells D (tysC cy) (wC ad cy) nwC [.ref (ad 0), .int v1] σ Qp :=
  zz_Mi.of zz_nwC (wC_ad ad cy) (by decide +kernel) rfl ⟨rfl, rfl⟩ (Nat.le_of_ble_eq_true rfl) (fun p e s m args below meth c A QW K hret => zu7_tells_0 K  hret h)
abbrev zrm7_isRack : Room := { frames := 0, cells := 0, slots := 0, locals := 0 }
set_option maxHeartbeats 4000000 in
set_option maxRecDepth 100000 in
theorem zu7_isRack_0 {p : Program} {l : Launch} {e : Env} {s : State} {m : MethodId} {args : Array Value} {below : List Frame} {meth : Method} {c : Code} {Q : State → Prop} {D : va_G} {A : Nat → Prop} {ad : Nat → Nat} {cy : Nat → ClassId} {v0 : Int32} {σ : zz_St} (K : zz_K p s m args c cX7_isRack 1 RX7 wsX7_isRack D (tysC cy) A (wC ad cy) nwC) {Qp : Int32 → Prop} (hret : ∀ (r : Int32), narrow .boolean (.int r) = .int r → Qp r → ∀ (pc : Nat) (lv : List (Nat × Value)), decode cX7_isRack pc = .ok (.ireturn, 1) → zz_G p l e zrm7_isRack s m args below meth c Q D A (wC ad cy) 1 pc lv [.int r] σ) (h : zq7_isRack v0 Qp) : zz_G p l e zrm7_isRack s m args below meth c Q D A (wC ad cy) 1 0 [(0, .int v0)] [] σ := by
  unfold zq7_isRack at h
  refine zz_iload_n K 0 dX7_isRack_0 rfl rfl ?_
  refine zz_if_lt K 13 dX7_isRack_1 rfl (fun c3 => ?_) (fun c3 => ?_)
  · have h := (And.left h) c3
    refine zz_iconst K dX7_isRack_13 zcCi_0 ?_
    exact hret _ rfl h _ _ dX7_isRack_14
  · have h := (And.right h) c3
    refine zz_iload_n K 0 dX7_isRack_4 rfl rfl ?_
    refine zz_iconst K dX7_isRack_5 zcCi_3 ?_
    refine zz_icmp_ge K 13 dX7_isRack_6 rfl (fun c4 => ?_) (fun c4 => ?_)
    · have h := (And.left h) c4
      refine zz_iconst K dX7_isRack_13 zcCi_0 ?_
      exact hret _ rfl h _ _ dX7_isRack_14
    · have h := (And.right h) c4
      refine zz_iconst K dX7_isRack_9 zcCi_1 ?_
      refine zz_goto K 14 dX7_isRack_10 rfl ?_
      exact hret _ rfl h _ _ dX7_isRack_14
set_option maxRecDepth 100000 in
theorem zc7_isRack (l : Launch) (D : va_G) (ad : Nat → Nat) (cy : Nat → ClassId) (v0 : Int32) (σ : zz_St) (Qp : Int32 → Prop) (h : zq7_isRack v0 Qp) : zz_Mi l yX7_isRack wsX7_isRack zrm7_isRack D (tysC cy) (wC ad cy) nwC [.int v0] σ (fun r σ2 => σ2 = σ ∧ Qp r) :=
  zz_Mi.of zz_nwC (wC_ad ad cy) (by decide +kernel) rfl ⟨rfl, rfl⟩ (Nat.le_of_ble_eq_true rfl) (fun p e s m args below meth c A QW K hret => zu7_isRack_0 K  (fun r hn hq pc lv hd => hret r σ hn ⟨rfl, hq⟩ pc lv hd) h)
theorem zin_X7_rack_X7 : ∀ w ∈ wsX70, w ∈ wsX7_rack := fun w h => List.mem_cons_of_mem _ (List.mem_append_left _ (List.mem_append_right _ h))
theorem zlk_X7_rack_1 : Cond.fieldLink RX7 67 "SolidsRolled" "shelves" "[LSolidsRolled$Rack;" ∈ wsX7_rack := List.mem_of_getElem? (i := 1) rfl
theorem zdsC_yX2_begin_v : yX2_begin.cls = RX2 ∧ yX2_begin.cls ≠ "java/lang/invoke/MethodHandle" ∧ yX2_begin.cls ≠ "java/lang/invoke/VarHandle" ∧ (parseMethodDescriptor yX2_begin.desc).map (fun d => d.parameters.length) = some 2 := by decide +kernel
theorem zdsC_yX7_isRack_s : yX7_isRack.cls ≠ "java/lang/invoke/MethodHandle" ∧ yX7_isRack.cls ≠ "java/lang/invoke/VarHandle" ∧ (parseMethodDescriptor yX7_isRack.desc).map (fun d => d.parameters.length) = some 1 := by decide +kernel
abbrev zrm7_rack : Room := { frames := 2, cells := 0, slots := 0, locals := 45 }
set_option maxHeartbeats 4000000 in
set_option maxRecDepth 100000 in
theorem zu7_rack_0 {p : Program} {l : Launch} {e : Env} {s : State} {m : MethodId} {args : Array Value} {below : List Frame} {meth : Method} {c : Code} {Q : State → Prop} {D : va_G} {A : Nat → Prop} {ad : Nat → Nat} {cy : Nat → ClassId} {v1 : Int32} {v2 : Int32} {v3 : Int32} {σ : zz_St} (K : zz_K p s m args c cX7_rack 4 RX7 wsX7_rack D (tysC cy) A (wC ad cy) nwC) {Qp : Int32 → zz_St → Prop} (hret : ∀ (r : Int32) (σ2 : zz_St), narrow .int (.int r) = .int r → Qp r σ2 → ∀ (pc : Nat) (lv : List (Nat × Value)), decode cX7_rack pc = .ok (.ireturn, 1) → zz_G p l e zrm7_rack s m args below meth c Q D A (wC ad cy) 4 pc lv [.int r] σ2) (h : zq7_rack v1 v2 v3 σ Qp) : zz_G p l e zrm7_rack s m args below meth c Q D A (wC ad cy) 4 0 [(0, .ref (ad 0)), (1, .int v1), (2, .int v2), (3, .int v3)] [] σ := by
  unfold zq7_rack at h
  refine zz_iload_n K 1 dX7_rack_0 rfl rfl ?_
  refine zz_callSi1 K zz_nwC [.int v1] (zc7_isRack l D ad cy v1 σ _  h) gX7_rack_X7_isRack rfl ⟨rfl, rfl⟩ zdsC_yX7_isRack_s ⟨Nat.le_of_ble_eq_true rfl, Nat.le_of_ble_eq_true rfl⟩ rfl rfl (Nat.le_of_ble_eq_true rfl) dX7_rack_1 (fun r14 h => ?_)
  refine zz_if_ne K 13 dX7_rack_4 rfl (fun c15 => ?_) (fun c15 => ?_)
  · have h := (And.left h) c15
    refine zz_iload_n K 2 dX7_rack_13 rfl rfl ?_
    refine zz_callSi1 K zz_nwC [.int v2] (zc7_isKind l D ad cy v2 σ _  h) gX7_rack_X7_isKind rfl ⟨rfl, rfl⟩ zdsC_yX7_isKind_s ⟨Nat.le_of_ble_eq_true rfl, Nat.le_of_ble_eq_true rfl⟩ rfl rfl (Nat.le_of_ble_eq_true rfl) dX7_rack_14 (fun r16 h => ?_)
    refine zz_if_ne K 27 dX7_rack_17 rfl (fun c17 => ?_) (fun c17 => ?_)
    · have h := (And.left h) c17
      refine zz_iload_n K 3 dX7_rack_27 rfl rfl ?_
      refine zz_bipush K dX7_rack_28 zcCb_9 ?_
      refine zz_icmp_le K 40 dX7_rack_30 rfl (fun c18 => ?_) (fun c18 => ?_)
      · have h := (And.left h) c18
        refine zz_iload_n K 3 dX7_rack_40 rfl rfl ?_
        refine zz_if_ge K 47 dX7_rack_41 rfl (fun c19 => ?_) (fun c19 => ?_)
        · have h := (And.left h) c19
          refine zz_aload_n K 0 dX7_rack_47 rfl rfl ?_
          refine zg7_7_0 K zin_X7_rack_X7 zlk_X7_rack_1 dX7_rack_48 ?_
          refine zz_iload_n K 1 dX7_rack_51 rfl rfl ?_
          obtain ⟨hin, h⟩ := h
          have hj20 := zz_lt hin
          refine zz_aaload K 2 (b := ad (11 + v1.toNatClampNeg)) (wC_at_44 ad cy σ) rfl hin rfl dX7_rack_52 ?_
          refine zz_iload_n K 2 dX7_rack_53 rfl rfl ?_
          refine zz_iload_n K 3 dX7_rack_54 rfl rfl ?_
          refine zz_callVv K zz_nwC [.int v2, .int v3] (zc2_begin l D ad cy v2 v3 (v1.toNatClampNeg) σ _ hj20 h) gX7_rack_X2_begin rfl ⟨rfl, rfl⟩ zdsC_yX2_begin_v ⟨Nat.le_of_ble_eq_true rfl, Nat.le_of_ble_eq_true rfl⟩ (wC_at_11_ ad cy σ _ hj20) rfl rfl rfl rfl (Nat.le_of_ble_eq_true rfl) dX7_rack_55 (fun g21 h => ?_)
          refine zz_iconst K dX7_rack_58 zcCi_1 ?_
          exact hret _ _ rfl h _ _ dX7_rack_59
        · have h := (And.right h) c19
          refine zz_bipush K dX7_rack_44 zcCb_m14 ?_
          exact hret _ _ rfl h _ _ dX7_rack_46
      · have h := (And.right h) c18
        refine zz_aload_n K 0 dX7_rack_33 rfl rfl ?_
        refine zz_bipush K dX7_rack_34 zcCb_m6 ?_
        refine zz_callVi K zz_nwC [.int (-6 : Int32)] (zc7_refuse l D ad cy (-6 : Int32) σ _  h) gX7_rack_X7_refuse rfl ⟨rfl, rfl⟩ zdsC_yX7_refuse_v ⟨Nat.le_of_ble_eq_true rfl, Nat.le_of_ble_eq_true rfl⟩ (wC_at_0 ad cy σ) rfl rfl rfl rfl (Nat.le_of_ble_eq_true rfl) dX7_rack_36 (fun r22 g23 h => ?_)
        exact hret _ _ rfl h _ _ dX7_rack_39
    · have h := (And.right h) c17
      refine zz_aload_n K 0 dX7_rack_20 rfl rfl ?_
      refine zz_bipush K dX7_rack_21 zcCb_m2 ?_
      refine zz_callVi K zz_nwC [.int (-2 : Int32)] (zc7_refuse l D ad cy (-2 : Int32) σ _  h) gX7_rack_X7_refuse rfl ⟨rfl, rfl⟩ zdsC_yX7_refuse_v ⟨Nat.le_of_ble_eq_true rfl, Nat.le_of_ble_eq_true rfl⟩ (wC_at_0 ad cy σ) rfl rfl rfl rfl (Nat.le_of_ble_eq_true rfl) dX7_rack_23 (fun r24 g25 h => ?_)
      exact hret _ _ rfl h _ _ dX7_rack_26
  · have h := (And.right h) c15
    refine zz_aload_n K 0 dX7_rack_7 rfl rfl ?_
    refine zz_iconst K dX7_rack_8 zcCi_m1 ?_
    refine zz_callVi K zz_nwC [.int (-1 : Int32)] (zc7_refuse l D ad cy (-1 : Int32) σ _  h) gX7_rack_X7_refuse rfl ⟨rfl, rfl⟩ zdsC_yX7_refuse_v ⟨Nat.le_of_ble_eq_true rfl, Nat.le_of_ble_eq_true rfl⟩ (wC_at_0 ad cy σ) rfl rfl rfl rfl (Nat.le_of_ble_eq_true rfl) dX7_rack_9 (fun r26 g27 h => ?_)
    exact hret _ _ rfl h _ _ dX7_rack_12
set_option maxRecDepth 100000 in
theorem zc7_rack (l : Launch) (D : va_G) (ad : Nat → Nat) (cy : Nat → ClassId) (v1 : Int32) (v2 : Int32) (v3 : Int32) (σ : zz_St) (Qp : Int32 → zz_St → Prop) (h : zq7_rack v1 v2 v3 σ Qp) : zz_Mi l yX7_rack wsX7_rack zrm7_rack D (tysC cy) (wC ad cy) nwC [.ref (ad 0), .int v1, .int v2, .int v3] σ Qp :=
  zz_Mi.of zz_nwC (wC_ad ad cy) (by decide +kernel) rfl ⟨rfl, rfl⟩ (Nat.le_of_ble_eq_true rfl) (fun p e s m args below meth c A QW K hret => zu7_rack_0 K  hret h)
abbrev zrm7_isUnder : Room := { frames := 0, cells := 0, slots := 0, locals := 0 }
set_option maxHeartbeats 4000000 in
set_option maxRecDepth 100000 in
theorem zu7_isUnder_24 {p : Program} {l : Launch} {e : Env} {s : State} {m : MethodId} {args : Array Value} {below : List Frame} {meth : Method} {c : Code} {Q : State → Prop} {D : va_G} {A : Nat → Prop} {ad : Nat → Nat} {cy : Nat → ClassId} {v0 : Int32} {v1 : Int32} {σ : zz_St} (K : zz_K p s m args c cX7_isUnder 2 RX7 wsX7_isUnder D (tysC cy) A (wC ad cy) nwC) {Qp : Int32 → Prop} (hret : ∀ (r : Int32), narrow .boolean (.int r) = .int r → Qp r → ∀ (pc : Nat) (lv : List (Nat × Value)), decode cX7_isUnder pc = .ok (.ireturn, 1) → zz_G p l e zrm7_isUnder s m args below meth c Q D A (wC ad cy) 2 pc lv [.int r] σ) (h : zq7_isUnder_24 v0 v1 Qp) : zz_G p l e zrm7_isUnder s m args below meth c Q D A (wC ad cy) 2 24 [(0, .int v0), (1, .int v1)] [] σ := by
  unfold zq7_isUnder_24 at h
  refine zz_iload_n K 0 dX7_isUnder_24 rfl rfl ?_
  refine zz_iconst K dX7_isUnder_25 zcCi_5 ?_
  refine zz_icmp_ne K 38 dX7_isUnder_26 rfl (fun c8 => ?_) (fun c8 => ?_)
  · have h := (And.left h) c8
    refine zz_iconst K dX7_isUnder_38 zcCi_0 ?_
    exact hret _ rfl h _ _ dX7_isUnder_39
  · have h := (And.right h) c8
    refine zz_iload_n K 1 dX7_isUnder_29 rfl rfl ?_
    refine zz_iconst K dX7_isUnder_30 zcCi_4 ?_
    refine zz_icmp_ne K 38 dX7_isUnder_31 rfl (fun c9 => ?_) (fun c9 => ?_)
    · have h := (And.left h) c9
      refine zz_iconst K dX7_isUnder_38 zcCi_0 ?_
      exact hret _ rfl h _ _ dX7_isUnder_39
    · have h := (And.right h) c9
      refine zz_iconst K dX7_isUnder_34 zcCi_1 ?_
      refine zz_goto K 39 dX7_isUnder_35 rfl ?_
      exact hret _ rfl h _ _ dX7_isUnder_39
set_option maxHeartbeats 4000000 in
set_option maxRecDepth 100000 in
theorem zu7_isUnder_14 {p : Program} {l : Launch} {e : Env} {s : State} {m : MethodId} {args : Array Value} {below : List Frame} {meth : Method} {c : Code} {Q : State → Prop} {D : va_G} {A : Nat → Prop} {ad : Nat → Nat} {cy : Nat → ClassId} {v0 : Int32} {v1 : Int32} {σ : zz_St} (K : zz_K p s m args c cX7_isUnder 2 RX7 wsX7_isUnder D (tysC cy) A (wC ad cy) nwC) {Qp : Int32 → Prop} (hret : ∀ (r : Int32), narrow .boolean (.int r) = .int r → Qp r → ∀ (pc : Nat) (lv : List (Nat × Value)), decode cX7_isUnder pc = .ok (.ireturn, 1) → zz_G p l e zrm7_isUnder s m args below meth c Q D A (wC ad cy) 2 pc lv [.int r] σ) (h : zq7_isUnder_14 v0 v1 Qp) : zz_G p l e zrm7_isUnder s m args below meth c Q D A (wC ad cy) 2 14 [(0, .int v0), (1, .int v1)] [] σ := by
  unfold zq7_isUnder_14 at h
  refine zz_iload_n K 0 dX7_isUnder_14 rfl rfl ?_
  refine zz_iconst K dX7_isUnder_15 zcCi_3 ?_
  refine zz_icmp_ne K 24 dX7_isUnder_16 rfl (fun c10 => ?_) (fun c10 => ?_)
  · have h := (And.left h) c10
    exact zu7_isUnder_24 K hret h
  · have h := (And.right h) c10
    refine zz_iload_n K 1 dX7_isUnder_19 rfl rfl ?_
    refine zz_iconst K dX7_isUnder_20 zcCi_2 ?_
    refine zz_icmp_eq K 34 dX7_isUnder_21 rfl (fun c11 => ?_) (fun c11 => ?_)
    · have h := (And.left h) c11
      refine zz_iconst K dX7_isUnder_34 zcCi_1 ?_
      refine zz_goto K 39 dX7_isUnder_35 rfl ?_
      exact hret _ rfl h _ _ dX7_isUnder_39
    · have h := (And.right h) c11
      exact zu7_isUnder_24 K hret h
set_option maxHeartbeats 4000000 in
set_option maxRecDepth 100000 in
theorem zu7_isUnder_0 {p : Program} {l : Launch} {e : Env} {s : State} {m : MethodId} {args : Array Value} {below : List Frame} {meth : Method} {c : Code} {Q : State → Prop} {D : va_G} {A : Nat → Prop} {ad : Nat → Nat} {cy : Nat → ClassId} {v0 : Int32} {v1 : Int32} {σ : zz_St} (K : zz_K p s m args c cX7_isUnder 2 RX7 wsX7_isUnder D (tysC cy) A (wC ad cy) nwC) {Qp : Int32 → Prop} (hret : ∀ (r : Int32), narrow .boolean (.int r) = .int r → Qp r → ∀ (pc : Nat) (lv : List (Nat × Value)), decode cX7_isUnder pc = .ok (.ireturn, 1) → zz_G p l e zrm7_isUnder s m args below meth c Q D A (wC ad cy) 2 pc lv [.int r] σ) (h : zq7_isUnder v0 v1 Qp) : zz_G p l e zrm7_isUnder s m args below meth c Q D A (wC ad cy) 2 0 [(0, .int v0), (1, .int v1)] [] σ := by
  unfold zq7_isUnder at h
  refine zz_iload_n K 0 dX7_isUnder_0 rfl rfl ?_
  refine zz_iload_n K 1 dX7_isUnder_1 rfl rfl ?_
  refine zz_icmp_eq K 34 dX7_isUnder_2 rfl (fun c12 => ?_) (fun c12 => ?_)
  · have h := (And.left h) c12
    refine zz_iconst K dX7_isUnder_34 zcCi_1 ?_
    refine zz_goto K 39 dX7_isUnder_35 rfl ?_
    exact hret _ rfl h _ _ dX7_isUnder_39
  · have h := (And.right h) c12
    refine zz_iload_n K 0 dX7_isUnder_5 rfl rfl ?_
    refine zz_iconst K dX7_isUnder_6 zcCi_1 ?_
    refine zz_icmp_ne K 14 dX7_isUnder_7 rfl (fun c13 => ?_) (fun c13 => ?_)
    · have h := (And.left h) c13
      exact zu7_isUnder_14 K hret h
    · have h := (And.right h) c13
      refine zz_iload_n K 1 dX7_isUnder_10 rfl rfl ?_
      refine zz_if_eq K 34 dX7_isUnder_11 rfl (fun c14 => ?_) (fun c14 => ?_)
      · have h := (And.left h) c14
        refine zz_iconst K dX7_isUnder_34 zcCi_1 ?_
        refine zz_goto K 39 dX7_isUnder_35 rfl ?_
        exact hret _ rfl h _ _ dX7_isUnder_39
      · have h := (And.right h) c14
        exact zu7_isUnder_14 K hret h
set_option maxRecDepth 100000 in
theorem zc7_isUnder (l : Launch) (D : va_G) (ad : Nat → Nat) (cy : Nat → ClassId) (v0 : Int32) (v1 : Int32) (σ : zz_St) (Qp : Int32 → Prop) (h : zq7_isUnder v0 v1 Qp) : zz_Mi l yX7_isUnder wsX7_isUnder zrm7_isUnder D (tysC cy) (wC ad cy) nwC [.int v0, .int v1] σ (fun r σ2 => σ2 = σ ∧ Qp r) :=
  zz_Mi.of zz_nwC (wC_ad ad cy) (by decide +kernel) rfl ⟨rfl, rfl⟩ (Nat.le_of_ble_eq_true rfl) (fun p e s m args below meth c A QW K hret => zu7_isUnder_0 K  (fun r hn hq pc lv hd => hret r σ hn ⟨rfl, hq⟩ pc lv hd) h)
theorem zin_X7_racks_X7 : ∀ w ∈ wsX70, w ∈ wsX7_racks := fun w h => List.mem_cons_of_mem _ (List.mem_append_left _ (List.mem_append_left _ (List.mem_append_left _ (List.mem_append_right _ h))))
theorem zlk_X7_racks_1 : Cond.fieldLink RX7 26 "SolidsRolled" "world" "LSolidsRolled$World;" ∈ wsX7_racks := List.mem_of_getElem? (i := 1) rfl
theorem zlk_X7_racks_2 : Cond.fieldLink RX7 67 "SolidsRolled" "shelves" "[LSolidsRolled$Rack;" ∈ wsX7_racks := List.mem_of_getElem? (i := 2) rfl
theorem zin_X7_racks_X6 : ∀ w ∈ wsX60, w ∈ wsX7_racks := fun w h => List.mem_cons_of_mem _ (List.mem_append_left _ (List.mem_append_left _ (List.mem_append_right _ h)))
theorem zlk_X7_racks_3 : Cond.fieldLink RX7 163 "SolidsRolled$World" "kind" "I" ∈ wsX7_racks := List.mem_of_getElem? (i := 3) rfl
theorem zin_X7_racks_X2 : ∀ w ∈ wsX20, w ∈ wsX7_racks := fun w h => List.mem_cons_of_mem _ (List.mem_append_left _ (List.mem_append_right _ h))
theorem zlk_X7_racks_4 : Cond.fieldLink RX7 309 "SolidsRolled$Rack" "madeFor" "I" ∈ wsX7_racks := List.mem_of_getElem? (i := 4) rfl
theorem zlk_X7_racks_5 : Cond.fieldLink RX7 169 "SolidsRolled$World" "state" "I" ∈ wsX7_racks := List.mem_of_getElem? (i := 5) rfl
theorem zcCb_m16 : (Int8.ofInt (-16)).toInt32 = (-16 : Int32) := by decide
theorem zdsC_yX2_store_v : yX2_store.cls = RX2 ∧ yX2_store.cls ≠ "java/lang/invoke/MethodHandle" ∧ yX2_store.cls ≠ "java/lang/invoke/VarHandle" ∧ (parseMethodDescriptor yX2_store.desc).map (fun d => d.parameters.length) = some 3 := by decide +kernel
theorem zdsC_yX7_isUnder_s : yX7_isUnder.cls ≠ "java/lang/invoke/MethodHandle" ∧ yX7_isUnder.cls ≠ "java/lang/invoke/VarHandle" ∧ (parseMethodDescriptor yX7_isUnder.desc).map (fun d => d.parameters.length) = some 2 := by decide +kernel
theorem zdsC_yX2_empty_v : yX2_empty.cls = RX2 ∧ yX2_empty.cls ≠ "java/lang/invoke/MethodHandle" ∧ yX2_empty.cls ≠ "java/lang/invoke/VarHandle" ∧ (parseMethodDescriptor yX2_empty.desc).map (fun d => d.parameters.length) = some 1 := by decide +kernel
theorem zdsC_yX2_lackAt_v : yX2_lackAt.cls = RX2 ∧ yX2_lackAt.cls ≠ "java/lang/invoke/MethodHandle" ∧ yX2_lackAt.cls ≠ "java/lang/invoke/VarHandle" ∧ (parseMethodDescriptor yX2_lackAt.desc).map (fun d => d.parameters.length) = some 1 := by decide +kernel
abbrev zrm7_racks : Room := { frames := 2, cells := 0, slots := 0, locals := 43 }
set_option maxHeartbeats 4000000 in
set_option maxRecDepth 100000 in
theorem zu7_racks_22 {p : Program} {l : Launch} {e : Env} {s : State} {m : MethodId} {args : Array Value} {below : List Frame} {meth : Method} {c : Code} {Q : State → Prop} {D : va_G} {A : Nat → Prop} {ad : Nat → Nat} {cy : Nat → ClassId}  {σ : zz_St} (K : zz_K p s m args c cX7_racks 6 RX7 wsX7_racks D (tysC cy) A (wC ad cy) nwC) {Qp : Int32 → zz_St → Prop} (hret : ∀ (r : Int32) (σ2 : zz_St), narrow .int (.int r) = .int r → Qp r σ2 → ∀ (pc : Nat) (lv : List (Nat × Value)), decode cX7_racks pc = .ok (.ireturn, 1) → zz_G p l e zrm7_racks s m args below meth c Q D A (wC ad cy) 6 pc lv [.int r] σ2) (h : zq7_racks_22 σ Qp) : zz_G p l e zrm7_racks s m args below meth c Q D A (wC ad cy) 6 22 [(0, .ref (ad 0))] [] σ := by
  unfold zq7_racks_22 at h
  refine zz_aload_n K 0 dX7_racks_22 rfl rfl ?_
  refine zz_bipush K dX7_racks_23 zcCb_m2 ?_
  refine zz_callVi K zz_nwC [.int (-2 : Int32)] (zc7_refuse l D ad cy (-2 : Int32) σ _  h) gX7_racks_X7_refuse rfl ⟨rfl, rfl⟩ zdsC_yX7_refuse_v ⟨Nat.le_of_ble_eq_true rfl, Nat.le_of_ble_eq_true rfl⟩ (wC_at_0 ad cy σ) rfl rfl rfl rfl (Nat.le_of_ble_eq_true rfl) dX7_racks_25 (fun r22 g23 h => ?_)
  exact hret _ _ rfl h _ _ dX7_racks_28
set_option maxHeartbeats 4000000 in
set_option maxRecDepth 100000 in
theorem zu7_racks_51 {p : Program} {l : Launch} {e : Env} {s : State} {m : MethodId} {args : Array Value} {below : List Frame} {meth : Method} {c : Code} {Q : State → Prop} {D : va_G} {A : Nat → Prop} {ad : Nat → Nat} {cy : Nat → ClassId} {v1 : Int32} {v2 : Int32} {v3 : Int32} {σ : zz_St} (K : zz_K p s m args c cX7_racks 6 RX7 wsX7_racks D (tysC cy) A (wC ad cy) nwC) {Qp : Int32 → zz_St → Prop} (hret : ∀ (r : Int32) (σ2 : zz_St), narrow .int (.int r) = .int r → Qp r σ2 → ∀ (pc : Nat) (lv : List (Nat × Value)), decode cX7_racks pc = .ok (.ireturn, 1) → zz_G p l e zrm7_racks s m args below meth c Q D A (wC ad cy) 6 pc lv [.int r] σ2) (h : zq7_racks_51 v1 v2 v3 σ Qp) : zz_G p l e zrm7_racks s m args below meth c Q D A (wC ad cy) 6 51 [(0, .ref (ad 0)), (1, .int v1), (2, .int v2), (3, .int v3)] [] σ := by
  unfold zq7_racks_51 at h
  refine zz_aload_n K 0 dX7_racks_51 rfl rfl ?_
  refine zg7_7_0 K zin_X7_racks_X7 zlk_X7_racks_2 dX7_racks_52 ?_
  refine zz_iload_n K 1 dX7_racks_55 rfl rfl ?_
  obtain ⟨hin, h⟩ := h
  have hj24 := zz_lt hin
  refine zz_aaload K 2 (b := ad (11 + v1.toNatClampNeg)) (wC_at_44 ad cy σ) rfl hin rfl dX7_racks_56 ?_
  refine zz_astore K [(4, .ref (ad (11 + v1.toNatClampNeg))), (0, .ref (ad 0)), (1, .int v1), (2, .int v2), (3, .int v3)] dX7_racks_57 (by decide) rfl ?_
  refine zz_aload K 0 dX7_racks_59 rfl ?_
  refine zz_iload_n K 3 dX7_racks_61 rfl rfl ?_
  refine zz_callVi1 K zz_nwC [.int v2] (zc2_lackAt l D ad cy v2 (v1.toNatClampNeg) σ _ hj24 h) gX7_racks_X2_lackAt rfl ⟨rfl, rfl⟩ zdsC_yX2_lackAt_v ⟨Nat.le_of_ble_eq_true rfl, Nat.le_of_ble_eq_true rfl⟩ (wC_at_11_ ad cy σ _ hj24) rfl rfl rfl rfl (Nat.le_of_ble_eq_true rfl) dX7_racks_62 (fun r25 h => ?_)
  refine zz_istore K [(5, .int r25), (4, .ref (ad (11 + v1.toNatClampNeg))), (0, .ref (ad 0)), (1, .int v1), (2, .int v2), (3, .int v3)] dX7_racks_65 (by decide) rfl ?_
  refine zz_iload K 0 dX7_racks_67 rfl ?_
  refine zz_if_ge K 75 dX7_racks_69 rfl (fun c26 => ?_) (fun c26 => ?_)
  · have h := (And.left h) c26
    refine zz_iload_n K 5 dX7_racks_75 rfl rfl ?_
    refine zz_if_ne K 87 dX7_racks_76 rfl (fun c27 => ?_) (fun c27 => ?_)
    · have h := (And.left h) c27
      refine zz_aload_n K 2 dX7_racks_87 rfl rfl ?_
      refine zg7_0_0 K zin_X7_racks_X7 zlk_X7_racks_1 dX7_racks_88 ?_
      refine zg6_6_0 K zin_X7_racks_X6 zlk_X7_racks_3 dX7_racks_91 ?_
      refine zz_aload K 1 dX7_racks_94 rfl ?_
      refine zg2_2_ K hj24 zin_X7_racks_X2 zlk_X7_racks_4 dX7_racks_96 ?_
      refine zz_callSi1 K zz_nwC [.int ((σ).1 6), .int ((σ).1 (25 + v1.toNatClampNeg))] (zc7_isUnder l D ad cy ((σ).1 6) ((σ).1 (25 + v1.toNatClampNeg)) σ _  h) gX7_racks_X7_isUnder rfl ⟨rfl, rfl⟩ zdsC_yX7_isUnder_s ⟨Nat.le_of_ble_eq_true rfl, Nat.le_of_ble_eq_true rfl⟩ rfl rfl (Nat.le_of_ble_eq_true rfl) dX7_racks_99 (fun r28 h => ?_)
      refine zz_if_ne K 108 dX7_racks_102 rfl (fun c29 => ?_) (fun c29 => ?_)
      · have h := (And.left h) c29
        refine zz_aload K 1 dX7_racks_108 rfl ?_
        refine zz_iload_n K 4 dX7_racks_110 rfl rfl ?_
        refine zz_aload_n K 2 dX7_racks_111 rfl rfl ?_
        refine zg7_0_0 K zin_X7_racks_X7 zlk_X7_racks_1 dX7_racks_112 ?_
        refine zg6_6_0 K zin_X7_racks_X6 zlk_X7_racks_3 dX7_racks_115 ?_
        refine zz_aload_n K 2 dX7_racks_118 rfl rfl ?_
        refine zg7_0_0 K zin_X7_racks_X7 zlk_X7_racks_1 dX7_racks_119 ?_
        refine zz_aload_n K 2 dX7_racks_122 rfl rfl ?_
        refine zg7_0_0 K zin_X7_racks_X7 zlk_X7_racks_1 dX7_racks_123 ?_
        refine zg6_7_0 K zin_X7_racks_X6 zlk_X7_racks_5 dX7_racks_126 ?_
        refine zz_callVi1 K zz_nwC [.int ((σ).1 8)] (zc6_faceBelow l D ad cy ((σ).1 8) σ _  h) gX7_racks_X6_faceBelow rfl ⟨rfl, rfl⟩ zdsC_yX6_faceBelow_v ⟨Nat.le_of_ble_eq_true rfl, Nat.le_of_ble_eq_true rfl⟩ (wC_at_1 ad cy σ) rfl rfl rfl rfl (Nat.le_of_ble_eq_true rfl) dX7_racks_129 (fun r30 h => ?_)
        refine zz_callVv K zz_nwC [.int v2, .int ((σ).1 6), .int r30] (zc2_store l D ad cy v2 ((σ).1 6) r30 (v1.toNatClampNeg) σ _ hj24 h) gX7_racks_X2_store rfl ⟨rfl, rfl⟩ zdsC_yX2_store_v ⟨Nat.le_of_ble_eq_true rfl, Nat.le_of_ble_eq_true rfl⟩ (wC_at_11_ ad cy σ _ hj24) rfl rfl rfl rfl (Nat.le_of_ble_eq_true rfl) dX7_racks_132 (fun g31 h => ?_)
        refine zz_iconst K dX7_racks_135 zcCi_1 ?_
        exact hret _ _ rfl h _ _ dX7_racks_136
      · have h := (And.right h) c29
        refine zz_bipush K dX7_racks_105 zcCb_m16 ?_
        exact hret _ _ rfl h _ _ dX7_racks_107
    · have h := (And.right h) c27
      refine zz_aload K 1 dX7_racks_79 rfl ?_
      refine zz_iload_n K 4 dX7_racks_81 rfl rfl ?_
      refine zz_callVv K zz_nwC [.int v2] (zc2_empty l D ad cy v2 (v1.toNatClampNeg) σ _ hj24 h) gX7_racks_X2_empty rfl ⟨rfl, rfl⟩ zdsC_yX2_empty_v ⟨Nat.le_of_ble_eq_true rfl, Nat.le_of_ble_eq_true rfl⟩ (wC_at_11_ ad cy σ _ hj24) rfl rfl rfl rfl (Nat.le_of_ble_eq_true rfl) dX7_racks_82 (fun g32 h => ?_)
      refine zz_iconst K dX7_racks_85 zcCi_1 ?_
      exact hret _ _ rfl h _ _ dX7_racks_86
  · have h := (And.right h) c26
    refine zz_iload K 0 dX7_racks_72 rfl ?_
    exact hret _ _ rfl h _ _ dX7_racks_74
set_option maxHeartbeats 4000000 in
set_option maxRecDepth 100000 in
theorem zu7_racks_0 {p : Program} {l : Launch} {e : Env} {s : State} {m : MethodId} {args : Array Value} {below : List Frame} {meth : Method} {c : Code} {Q : State → Prop} {D : va_G} {A : Nat → Prop} {ad : Nat → Nat} {cy : Nat → ClassId} {v1 : Int32} {v2 : Int32} {v3 : Int32} {σ : zz_St} (K : zz_K p s m args c cX7_racks 6 RX7 wsX7_racks D (tysC cy) A (wC ad cy) nwC) {Qp : Int32 → zz_St → Prop} (hret : ∀ (r : Int32) (σ2 : zz_St), narrow .int (.int r) = .int r → Qp r σ2 → ∀ (pc : Nat) (lv : List (Nat × Value)), decode cX7_racks pc = .ok (.ireturn, 1) → zz_G p l e zrm7_racks s m args below meth c Q D A (wC ad cy) 6 pc lv [.int r] σ2) (h : zq7_racks v1 v2 v3 σ Qp) : zz_G p l e zrm7_racks s m args below meth c Q D A (wC ad cy) 6 0 [(0, .ref (ad 0)), (1, .int v1), (2, .int v2), (3, .int v3)] [] σ := by
  unfold zq7_racks at h
  refine zz_iload_n K 1 dX7_racks_0 rfl rfl ?_
  refine zz_callSi1 K zz_nwC [.int v1] (zc7_isRack l D ad cy v1 σ _  h) gX7_racks_X7_isRack rfl ⟨rfl, rfl⟩ zdsC_yX7_isRack_s ⟨Nat.le_of_ble_eq_true rfl, Nat.le_of_ble_eq_true rfl⟩ rfl rfl (Nat.le_of_ble_eq_true rfl) dX7_racks_1 (fun r33 h => ?_)
  refine zz_if_ne K 13 dX7_racks_4 rfl (fun c34 => ?_) (fun c34 => ?_)
  · have h := (And.left h) c34
    refine zz_iload_n K 3 dX7_racks_13 rfl rfl ?_
    refine zz_if_lt K 22 dX7_racks_14 rfl (fun c35 => ?_) (fun c35 => ?_)
    · have h := (And.left h) c35
      refine zz_sub [0] [(0, .ref (ad 0))] rfl ?_
      exact zu7_racks_22 K hret h
    · have h := (And.right h) c35
      refine zz_iload_n K 3 dX7_racks_17 rfl rfl ?_
      refine zz_iconst K dX7_racks_18 zcCi_1 ?_
      refine zz_icmp_le K 29 dX7_racks_19 rfl (fun c36 => ?_) (fun c36 => ?_)
      · have h := (And.left h) c36
        refine zz_iload_n K 3 dX7_racks_29 rfl rfl ?_
        refine zz_iconst K dX7_racks_30 zcCi_1 ?_
        refine zz_icmp_ne K 51 dX7_racks_31 rfl (fun c37 => ?_) (fun c37 => ?_)
        · have h := (And.left h) c37
          exact zu7_racks_51 K hret h
        · have h := (And.right h) c37
          refine zz_aload_n K 0 dX7_racks_34 rfl rfl ?_
          refine zg7_0_0 K zin_X7_racks_X7 zlk_X7_racks_1 dX7_racks_35 ?_
          refine zz_callVi1 K zz_nwC [] (zc6_isNone l D ad cy  σ _  h) gX7_racks_X6_isNone rfl ⟨rfl, rfl⟩ zdsC_yX6_isNone_v ⟨Nat.le_of_ble_eq_true rfl, Nat.le_of_ble_eq_true rfl⟩ (wC_at_1 ad cy σ) rfl rfl rfl rfl (Nat.le_of_ble_eq_true rfl) dX7_racks_38 (fun r38 h => ?_)
          refine zz_if_eq K 51 dX7_racks_41 rfl (fun c39 => ?_) (fun c39 => ?_)
          · have h := (And.left h) c39
            exact zu7_racks_51 K hret h
          · have h := (And.right h) c39
            refine zz_aload_n K 0 dX7_racks_44 rfl rfl ?_
            refine zz_bipush K dX7_racks_45 zcCb_m3 ?_
            refine zz_callVi K zz_nwC [.int (-3 : Int32)] (zc7_refuse l D ad cy (-3 : Int32) σ _  h) gX7_racks_X7_refuse rfl ⟨rfl, rfl⟩ zdsC_yX7_refuse_v ⟨Nat.le_of_ble_eq_true rfl, Nat.le_of_ble_eq_true rfl⟩ (wC_at_0 ad cy σ) rfl rfl rfl rfl (Nat.le_of_ble_eq_true rfl) dX7_racks_47 (fun r40 g41 h => ?_)
            exact hret _ _ rfl h _ _ dX7_racks_50
      · have h := (And.right h) c36
        refine zz_sub [0] [(0, .ref (ad 0))] rfl ?_
        exact zu7_racks_22 K hret h
  · have h := (And.right h) c34
    refine zz_aload_n K 0 dX7_racks_7 rfl rfl ?_
    refine zz_iconst K dX7_racks_8 zcCi_m1 ?_
    refine zz_callVi K zz_nwC [.int (-1 : Int32)] (zc7_refuse l D ad cy (-1 : Int32) σ _  h) gX7_racks_X7_refuse rfl ⟨rfl, rfl⟩ zdsC_yX7_refuse_v ⟨Nat.le_of_ble_eq_true rfl, Nat.le_of_ble_eq_true rfl⟩ (wC_at_0 ad cy σ) rfl rfl rfl rfl (Nat.le_of_ble_eq_true rfl) dX7_racks_9 (fun r42 g43 h => ?_)
    exact hret _ _ rfl h _ _ dX7_racks_12
set_option maxRecDepth 100000 in
theorem zc7_racks (l : Launch) (D : va_G) (ad : Nat → Nat) (cy : Nat → ClassId) (v1 : Int32) (v2 : Int32) (v3 : Int32) (σ : zz_St) (Qp : Int32 → zz_St → Prop) (h : zq7_racks v1 v2 v3 σ Qp) : zz_Mi l yX7_racks wsX7_racks zrm7_racks D (tysC cy) (wC ad cy) nwC [.ref (ad 0), .int v1, .int v2, .int v3] σ Qp :=
  zz_Mi.of zz_nwC (wC_ad ad cy) (by decide +kernel) rfl ⟨rfl, rfl⟩ (Nat.le_of_ble_eq_true rfl) (fun p e s m args below meth c A QW K hret => zu7_racks_0 K  hret h)
theorem zin_X7_racked_X7 : ∀ w ∈ wsX70, w ∈ wsX7_racked := fun w h => List.mem_cons_of_mem _ (List.mem_append_left _ (List.mem_append_right _ h))
theorem zlk_X7_racked_1 : Cond.fieldLink RX7 67 "SolidsRolled" "shelves" "[LSolidsRolled$Rack;" ∈ wsX7_racked := List.mem_of_getElem? (i := 1) rfl
theorem zin_X7_racked_X2 : ∀ w ∈ wsX20, w ∈ wsX7_racked := fun w h => List.mem_cons_of_mem _ (List.mem_append_right _ h)
theorem zlk_X7_racked_3 : Cond.fieldLink RX7 325 "SolidsRolled$Rack" "below" "[I" ∈ wsX7_racked := List.mem_of_getElem? (i := 3) rfl
theorem zlk_X7_racked_2 : Cond.fieldLink RX7 322 "SolidsRolled$Rack" "kinds" "[I" ∈ wsX7_racked := List.mem_of_getElem? (i := 2) rfl
theorem zdsC_yX2_isEmptyAt_v : yX2_isEmptyAt.cls = RX2 ∧ yX2_isEmptyAt.cls ≠ "java/lang/invoke/MethodHandle" ∧ yX2_isEmptyAt.cls ≠ "java/lang/invoke/VarHandle" ∧ (parseMethodDescriptor yX2_isEmptyAt.desc).map (fun d => d.parameters.length) = some 1 := by decide +kernel
abbrev zrm7_racked : Room := { frames := 2, cells := 0, slots := 0, locals := 42 }
set_option maxHeartbeats 4000000 in
set_option maxRecDepth 100000 in
theorem zu7_racked_22 {p : Program} {l : Launch} {e : Env} {s : State} {m : MethodId} {args : Array Value} {below : List Frame} {meth : Method} {c : Code} {Q : State → Prop} {D : va_G} {A : Nat → Prop} {ad : Nat → Nat} {cy : Nat → ClassId}  {σ : zz_St} (K : zz_K p s m args c cX7_racked 6 RX7 wsX7_racked D (tysC cy) A (wC ad cy) nwC) {Qp : Int32 → zz_St → Prop} (hret : ∀ (r : Int32) (σ2 : zz_St), narrow .int (.int r) = .int r → Qp r σ2 → ∀ (pc : Nat) (lv : List (Nat × Value)), decode cX7_racked pc = .ok (.ireturn, 1) → zz_G p l e zrm7_racked s m args below meth c Q D A (wC ad cy) 6 pc lv [.int r] σ2) (h : zq7_racked_22 σ Qp) : zz_G p l e zrm7_racked s m args below meth c Q D A (wC ad cy) 6 22 [(0, .ref (ad 0))] [] σ := by
  unfold zq7_racked_22 at h
  refine zz_aload_n K 0 dX7_racked_22 rfl rfl ?_
  refine zz_bipush K dX7_racked_23 zcCb_m2 ?_
  refine zz_callVi K zz_nwC [.int (-2 : Int32)] (zc7_refuse l D ad cy (-2 : Int32) σ _  h) gX7_racked_X7_refuse rfl ⟨rfl, rfl⟩ zdsC_yX7_refuse_v ⟨Nat.le_of_ble_eq_true rfl, Nat.le_of_ble_eq_true rfl⟩ (wC_at_0 ad cy σ) rfl rfl rfl rfl (Nat.le_of_ble_eq_true rfl) dX7_racked_25 (fun r14 g15 h => ?_)
  exact hret _ _ rfl h _ _ dX7_racked_28
set_option maxHeartbeats 4000000 in
set_option maxRecDepth 100000 in
theorem zu7_racked_0 {p : Program} {l : Launch} {e : Env} {s : State} {m : MethodId} {args : Array Value} {below : List Frame} {meth : Method} {c : Code} {Q : State → Prop} {D : va_G} {A : Nat → Prop} {ad : Nat → Nat} {cy : Nat → ClassId} {v1 : Int32} {v2 : Int32} {v3 : Int32} {σ : zz_St} (K : zz_K p s m args c cX7_racked 6 RX7 wsX7_racked D (tysC cy) A (wC ad cy) nwC) {Qp : Int32 → zz_St → Prop} (hret : ∀ (r : Int32) (σ2 : zz_St), narrow .int (.int r) = .int r → Qp r σ2 → ∀ (pc : Nat) (lv : List (Nat × Value)), decode cX7_racked pc = .ok (.ireturn, 1) → zz_G p l e zrm7_racked s m args below meth c Q D A (wC ad cy) 6 pc lv [.int r] σ2) (h : zq7_racked v1 v2 v3 σ Qp) : zz_G p l e zrm7_racked s m args below meth c Q D A (wC ad cy) 6 0 [(0, .ref (ad 0)), (1, .int v1), (2, .int v2), (3, .int v3)] [] σ := by
  unfold zq7_racked at h
  refine zz_iload_n K 1 dX7_racked_0 rfl rfl ?_
  refine zz_callSi1 K zz_nwC [.int v1] (zc7_isRack l D ad cy v1 σ _  h) gX7_racked_X7_isRack rfl ⟨rfl, rfl⟩ zdsC_yX7_isRack_s ⟨Nat.le_of_ble_eq_true rfl, Nat.le_of_ble_eq_true rfl⟩ rfl rfl (Nat.le_of_ble_eq_true rfl) dX7_racked_1 (fun r16 h => ?_)
  refine zz_if_ne K 13 dX7_racked_4 rfl (fun c17 => ?_) (fun c17 => ?_)
  · have h := (And.left h) c17
    refine zz_iload_n K 3 dX7_racked_13 rfl rfl ?_
    refine zz_if_lt K 22 dX7_racked_14 rfl (fun c18 => ?_) (fun c18 => ?_)
    · have h := (And.left h) c18
      refine zz_sub [0] [(0, .ref (ad 0))] rfl ?_
      exact zu7_racked_22 K hret h
    · have h := (And.right h) c18
      refine zz_iload_n K 3 dX7_racked_17 rfl rfl ?_
      refine zz_iconst K dX7_racked_18 zcCi_1 ?_
      refine zz_icmp_le K 29 dX7_racked_19 rfl (fun c19 => ?_) (fun c19 => ?_)
      · have h := (And.left h) c19
        refine zz_aload_n K 0 dX7_racked_29 rfl rfl ?_
        refine zg7_7_0 K zin_X7_racked_X7 zlk_X7_racked_1 dX7_racked_30 ?_
        refine zz_iload_n K 1 dX7_racked_33 rfl rfl ?_
        obtain ⟨hin, h⟩ := h
        have hj20 := zz_lt hin
        refine zz_aaload K 2 (b := ad (11 + v1.toNatClampNeg)) (wC_at_44 ad cy σ) rfl hin rfl dX7_racked_34 ?_
        refine zz_astore K [(4, .ref (ad (11 + v1.toNatClampNeg))), (0, .ref (ad 0)), (1, .int v1), (2, .int v2), (3, .int v3)] dX7_racked_35 (by decide) rfl ?_
        refine zz_aload K 0 dX7_racked_37 rfl ?_
        refine zz_iload_n K 3 dX7_racked_39 rfl rfl ?_
        refine zz_callVi1 K zz_nwC [.int v2] (zc2_lackAt l D ad cy v2 (v1.toNatClampNeg) σ _ hj20 h) gX7_racked_X2_lackAt rfl ⟨rfl, rfl⟩ zdsC_yX2_lackAt_v ⟨Nat.le_of_ble_eq_true rfl, Nat.le_of_ble_eq_true rfl⟩ (wC_at_11_ ad cy σ _ hj20) rfl rfl rfl rfl (Nat.le_of_ble_eq_true rfl) dX7_racked_40 (fun r21 h => ?_)
        refine zz_istore K [(5, .int r21), (4, .ref (ad (11 + v1.toNatClampNeg))), (0, .ref (ad 0)), (1, .int v1), (2, .int v2), (3, .int v3)] dX7_racked_43 (by decide) rfl ?_
        refine zz_iload K 0 dX7_racked_45 rfl ?_
        refine zz_if_ge K 53 dX7_racked_47 rfl (fun c22 => ?_) (fun c22 => ?_)
        · have h := (And.left h) c22
          refine zz_aload K 1 dX7_racked_53 rfl ?_
          refine zz_iload_n K 4 dX7_racked_55 rfl rfl ?_
          refine zz_callVi1 K zz_nwC [.int v2] (zc2_isEmptyAt l D ad cy v2 (v1.toNatClampNeg) σ _ hj20 h) gX7_racked_X2_isEmptyAt rfl ⟨rfl, rfl⟩ zdsC_yX2_isEmptyAt_v ⟨Nat.le_of_ble_eq_true rfl, Nat.le_of_ble_eq_true rfl⟩ (wC_at_11_ ad cy σ _ hj20) rfl rfl rfl rfl (Nat.le_of_ble_eq_true rfl) dX7_racked_56 (fun r23 h => ?_)
          refine zz_if_eq K 65 dX7_racked_59 rfl (fun c24 => ?_) (fun c24 => ?_)
          · have h := (And.left h) c24
            refine zz_iload_n K 5 dX7_racked_65 rfl rfl ?_
            refine zz_if_ne K 79 dX7_racked_66 rfl (fun c25 => ?_) (fun c25 => ?_)
            · have h := (And.left h) c25
              refine zz_aload K 1 dX7_racked_79 rfl ?_
              refine zg2_1_ K hj20 zin_X7_racked_X2 zlk_X7_racked_3 dX7_racked_81 ?_
              refine zz_iload_n K 4 dX7_racked_84 rfl rfl ?_
              obtain ⟨hin, h⟩ := h
              refine zz_iaload K 0 (wC_at_40_ ad cy σ _ hj20) rfl hin dX7_racked_85 ?_
              exact hret _ _ rfl h _ _ dX7_racked_86
            · have h := (And.right h) c25
              refine zz_aload K 1 dX7_racked_69 rfl ?_
              refine zg2_0_ K hj20 zin_X7_racked_X2 zlk_X7_racked_2 dX7_racked_71 ?_
              refine zz_iload_n K 4 dX7_racked_74 rfl rfl ?_
              obtain ⟨hin, h⟩ := h
              refine zz_iaload K 0 (wC_at_37_ ad cy σ _ hj20) rfl hin dX7_racked_75 ?_
              refine zz_goto K 86 dX7_racked_76 rfl ?_
              exact hret _ _ rfl h _ _ dX7_racked_86
          · have h := (And.right h) c24
            refine zz_bipush K dX7_racked_62 zcCb_m9 ?_
            exact hret _ _ rfl h _ _ dX7_racked_64
        · have h := (And.right h) c22
          refine zz_iload K 0 dX7_racked_50 rfl ?_
          exact hret _ _ rfl h _ _ dX7_racked_52
      · have h := (And.right h) c19
        refine zz_sub [0] [(0, .ref (ad 0))] rfl ?_
        exact zu7_racked_22 K hret h
  · have h := (And.right h) c17
    refine zz_aload_n K 0 dX7_racked_7 rfl rfl ?_
    refine zz_iconst K dX7_racked_8 zcCi_m1 ?_
    refine zz_callVi K zz_nwC [.int (-1 : Int32)] (zc7_refuse l D ad cy (-1 : Int32) σ _  h) gX7_racked_X7_refuse rfl ⟨rfl, rfl⟩ zdsC_yX7_refuse_v ⟨Nat.le_of_ble_eq_true rfl, Nat.le_of_ble_eq_true rfl⟩ (wC_at_0 ad cy σ) rfl rfl rfl rfl (Nat.le_of_ble_eq_true rfl) dX7_racked_9 (fun r26 g27 h => ?_)
    exact hret _ _ rfl h _ _ dX7_racked_12
set_option maxRecDepth 100000 in
theorem zc7_racked (l : Launch) (D : va_G) (ad : Nat → Nat) (cy : Nat → ClassId) (v1 : Int32) (v2 : Int32) (v3 : Int32) (σ : zz_St) (Qp : Int32 → zz_St → Prop) (h : zq7_racked v1 v2 v3 σ Qp) : zz_Mi l yX7_racked wsX7_racked zrm7_racked D (tysC cy) (wC ad cy) nwC [.ref (ad 0), .int v1, .int v2, .int v3] σ Qp :=
  zz_Mi.of zz_nwC (wC_ad ad cy) (by decide +kernel) rfl ⟨rfl, rfl⟩ (Nat.le_of_ble_eq_true rfl) (fun p e s m args below meth c A QW K hret => zu7_racked_0 K  hret h)
theorem zin_X7_like_X7 : ∀ w ∈ wsX70, w ∈ wsX7_like := fun w h => List.mem_cons_of_mem _ (List.mem_append_left _ (List.mem_append_right _ h))
theorem zlk_X7_like_1 : Cond.fieldLink RX7 67 "SolidsRolled" "shelves" "[LSolidsRolled$Rack;" ∈ wsX7_like := List.mem_of_getElem? (i := 1) rfl
theorem zin_X7_like_X2 : ∀ w ∈ wsX20, w ∈ wsX7_like := fun w h => List.mem_cons_of_mem _ (List.mem_append_right _ h)
theorem zlk_X7_like_2 : Cond.fieldLink RX7 333 "SolidsRolled$Rack" "size" "I" ∈ wsX7_like := List.mem_of_getElem? (i := 2) rfl
theorem zdsC_yX2_copyFrom_v : yX2_copyFrom.cls = RX2 ∧ yX2_copyFrom.cls ≠ "java/lang/invoke/MethodHandle" ∧ yX2_copyFrom.cls ≠ "java/lang/invoke/VarHandle" ∧ (parseMethodDescriptor yX2_copyFrom.desc).map (fun d => d.parameters.length) = some 1 := by decide +kernel
theorem zdsC_yX2_isMissing_v : yX2_isMissing.cls = RX2 ∧ yX2_isMissing.cls ≠ "java/lang/invoke/MethodHandle" ∧ yX2_isMissing.cls ≠ "java/lang/invoke/VarHandle" ∧ (parseMethodDescriptor yX2_isMissing.desc).map (fun d => d.parameters.length) = some 0 := by decide +kernel
abbrev zrm7_like : Room := { frames := 2, cells := 0, slots := 0, locals := 61 }
set_option maxHeartbeats 4000000 in
set_option maxRecDepth 100000 in
theorem zu7_like_14 {p : Program} {l : Launch} {e : Env} {s : State} {m : MethodId} {args : Array Value} {below : List Frame} {meth : Method} {c : Code} {Q : State → Prop} {D : va_G} {A : Nat → Prop} {ad : Nat → Nat} {cy : Nat → ClassId}  {σ : zz_St} (K : zz_K p s m args c cX7_like 3 RX7 wsX7_like D (tysC cy) A (wC ad cy) nwC) {Qp : Int32 → zz_St → Prop} (hret : ∀ (r : Int32) (σ2 : zz_St), narrow .int (.int r) = .int r → Qp r σ2 → ∀ (pc : Nat) (lv : List (Nat × Value)), decode cX7_like pc = .ok (.ireturn, 1) → zz_G p l e zrm7_like s m args below meth c Q D A (wC ad cy) 3 pc lv [.int r] σ2) (h : zq7_like_14 σ Qp) : zz_G p l e zrm7_like s m args below meth c Q D A (wC ad cy) 3 14 [(0, .ref (ad 0))] [] σ := by
  unfold zq7_like_14 at h
  refine zz_aload_n K 0 dX7_like_14 rfl rfl ?_
  refine zz_iconst K dX7_like_15 zcCi_m1 ?_
  refine zz_callVi K zz_nwC [.int (-1 : Int32)] (zc7_refuse l D ad cy (-1 : Int32) σ _  h) gX7_like_X7_refuse rfl ⟨rfl, rfl⟩ zdsC_yX7_refuse_v ⟨Nat.le_of_ble_eq_true rfl, Nat.le_of_ble_eq_true rfl⟩ (wC_at_0 ad cy σ) rfl rfl rfl rfl (Nat.le_of_ble_eq_true rfl) dX7_like_16 (fun r10 g11 h => ?_)
  exact hret _ _ rfl h _ _ dX7_like_19
set_option maxHeartbeats 4000000 in
set_option maxRecDepth 100000 in
theorem zu7_like_0 {p : Program} {l : Launch} {e : Env} {s : State} {m : MethodId} {args : Array Value} {below : List Frame} {meth : Method} {c : Code} {Q : State → Prop} {D : va_G} {A : Nat → Prop} {ad : Nat → Nat} {cy : Nat → ClassId} {v1 : Int32} {v2 : Int32} {σ : zz_St} (K : zz_K p s m args c cX7_like 3 RX7 wsX7_like D (tysC cy) A (wC ad cy) nwC) {Qp : Int32 → zz_St → Prop} (hret : ∀ (r : Int32) (σ2 : zz_St), narrow .int (.int r) = .int r → Qp r σ2 → ∀ (pc : Nat) (lv : List (Nat × Value)), decode cX7_like pc = .ok (.ireturn, 1) → zz_G p l e zrm7_like s m args below meth c Q D A (wC ad cy) 3 pc lv [.int r] σ2) (h : zq7_like v1 v2 σ Qp) : zz_G p l e zrm7_like s m args below meth c Q D A (wC ad cy) 3 0 [(0, .ref (ad 0)), (1, .int v1), (2, .int v2)] [] σ := by
  unfold zq7_like at h
  refine zz_iload_n K 1 dX7_like_0 rfl rfl ?_
  refine zz_callSi1 K zz_nwC [.int v1] (zc7_isRack l D ad cy v1 σ _  h) gX7_like_X7_isRack rfl ⟨rfl, rfl⟩ zdsC_yX7_isRack_s ⟨Nat.le_of_ble_eq_true rfl, Nat.le_of_ble_eq_true rfl⟩ rfl rfl (Nat.le_of_ble_eq_true rfl) dX7_like_1 (fun r12 h => ?_)
  refine zz_if_eq K 14 dX7_like_4 rfl (fun c13 => ?_) (fun c13 => ?_)
  · have h := (And.left h) c13
    refine zz_sub [0] [(0, .ref (ad 0))] rfl ?_
    exact zu7_like_14 K hret h
  · have h := (And.right h) c13
    refine zz_iload_n K 2 dX7_like_7 rfl rfl ?_
    refine zz_callSi1 K zz_nwC [.int v2] (zc7_isRack l D ad cy v2 σ _  h) gX7_like_X7_isRack rfl ⟨rfl, rfl⟩ zdsC_yX7_isRack_s ⟨Nat.le_of_ble_eq_true rfl, Nat.le_of_ble_eq_true rfl⟩ rfl rfl (Nat.le_of_ble_eq_true rfl) dX7_like_8 (fun r14 h => ?_)
    refine zz_if_ne K 20 dX7_like_11 rfl (fun c15 => ?_) (fun c15 => ?_)
    · have h := (And.left h) c15
      refine zz_aload_n K 0 dX7_like_20 rfl rfl ?_
      refine zg7_7_0 K zin_X7_like_X7 zlk_X7_like_1 dX7_like_21 ?_
      refine zz_iload_n K 2 dX7_like_24 rfl rfl ?_
      obtain ⟨hin, h⟩ := h
      have hj16 := zz_lt hin
      refine zz_aaload K 2 (b := ad (11 + v2.toNatClampNeg)) (wC_at_44 ad cy σ) rfl hin rfl dX7_like_25 ?_
      refine zz_callVi1 K zz_nwC [] (zc2_isMissing l D ad cy (v2.toNatClampNeg) σ _ hj16 h) gX7_like_X2_isMissing rfl ⟨rfl, rfl⟩ zdsC_yX2_isMissing_v ⟨Nat.le_of_ble_eq_true rfl, Nat.le_of_ble_eq_true rfl⟩ (wC_at_11_ ad cy σ _ hj16) rfl rfl rfl rfl (Nat.le_of_ble_eq_true rfl) dX7_like_26 (fun r17 h => ?_)
      refine zz_if_eq K 35 dX7_like_29 rfl (fun c18 => ?_) (fun c18 => ?_)
      · have h := (And.left h) c18
        refine zz_aload_n K 0 dX7_like_35 rfl rfl ?_
        refine zg7_7_0 K zin_X7_like_X7 zlk_X7_like_1 dX7_like_36 ?_
        refine zz_iload_n K 1 dX7_like_39 rfl rfl ?_
        obtain ⟨hin, h⟩ := h
        have hj19 := zz_lt hin
        refine zz_aaload K 2 (b := ad (11 + v1.toNatClampNeg)) (wC_at_44 ad cy σ) rfl hin rfl dX7_like_40 ?_
        refine zz_aload_n K 0 dX7_like_41 rfl rfl ?_
        refine zg7_7_0 K zin_X7_like_X7 zlk_X7_like_1 dX7_like_42 ?_
        refine zz_iload_n K 2 dX7_like_45 rfl rfl ?_
        obtain ⟨hin, h⟩ := h
        have hj20 := zz_lt hin
        refine zz_aaload K 2 (b := ad (11 + v2.toNatClampNeg)) (wC_at_44 ad cy σ) rfl hin rfl dX7_like_46 ?_
        refine zz_callVv K zz_nwC [.ref (ad (11 + v2.toNatClampNeg))] (zc2_copyFrom l D ad cy (v2.toNatClampNeg) (v1.toNatClampNeg) σ _ hj20 hj19 h) gX7_like_X2_copyFrom rfl ⟨rfl, rfl⟩ zdsC_yX2_copyFrom_v ⟨Nat.le_of_ble_eq_true rfl, Nat.le_of_ble_eq_true rfl⟩ (wC_at_11_ ad cy σ _ hj19) rfl rfl rfl rfl (Nat.le_of_ble_eq_true rfl) dX7_like_47 (fun g21 h => ?_)
        refine zz_aload_n K 0 dX7_like_50 rfl rfl ?_
        refine zg7_7_0 K zin_X7_like_X7 zlk_X7_like_1 dX7_like_51 ?_
        refine zz_iload_n K 1 dX7_like_54 rfl rfl ?_
        obtain ⟨hin, h⟩ := h
        have hj22 := zz_lt hin
        refine zz_aaload K 2 (b := ad (11 + v1.toNatClampNeg)) (wC_at_44 ad cy g21) rfl hin rfl dX7_like_55 ?_
        refine zg2_3_ K hj22 zin_X7_like_X2 zlk_X7_like_2 dX7_like_56 ?_
        exact hret _ _ rfl h _ _ dX7_like_59
      · have h := (And.right h) c18
        refine zz_bipush K dX7_like_32 zcCb_m11 ?_
        exact hret _ _ rfl h _ _ dX7_like_34
    · have h := (And.right h) c15
      refine zz_sub [0] [(0, .ref (ad 0))] rfl ?_
      exact zu7_like_14 K hret h
set_option maxRecDepth 100000 in
theorem zc7_like (l : Launch) (D : va_G) (ad : Nat → Nat) (cy : Nat → ClassId) (v1 : Int32) (v2 : Int32) (σ : zz_St) (Qp : Int32 → zz_St → Prop) (h : zq7_like v1 v2 σ Qp) : zz_Mi l yX7_like wsX7_like zrm7_like D (tysC cy) (wC ad cy) nwC [.ref (ad 0), .int v1, .int v2] σ Qp :=
  zz_Mi.of zz_nwC (wC_ad ad cy) (by decide +kernel) rfl ⟨rfl, rfl⟩ (Nat.le_of_ble_eq_true rfl) (fun p e s m args below meth c A QW K hret => zu7_like_0 K  hret h)
theorem zin_X7_placeOrNothing_X7 : ∀ w ∈ wsX70, w ∈ wsX7_placeOrNothing := fun w h => List.mem_cons_of_mem _ (List.mem_append_left _ (List.mem_append_right _ h))
theorem zlk_X7_placeOrNothing_1 : Cond.fieldLink RX7 26 "SolidsRolled" "world" "LSolidsRolled$World;" ∈ wsX7_placeOrNothing := List.mem_of_getElem? (i := 1) rfl
abbrev zrm7_placeOrNothing : Room := { frames := 1, cells := 0, slots := 0, locals := 20 }
set_option maxHeartbeats 4000000 in
set_option maxRecDepth 100000 in
theorem zu7_placeOrNothing_0 {p : Program} {l : Launch} {e : Env} {s : State} {m : MethodId} {args : Array Value} {below : List Frame} {meth : Method} {c : Code} {Q : State → Prop} {D : va_G} {A : Nat → Prop} {ad : Nat → Nat} {cy : Nat → ClassId}  {σ : zz_St} (K : zz_K p s m args c cX7_placeOrNothing 1 RX7 wsX7_placeOrNothing D (tysC cy) A (wC ad cy) nwC) {Qp : Int32 → Prop} (hret : ∀ (r : Int32), narrow .int (.int r) = .int r → Qp r → ∀ (pc : Nat) (lv : List (Nat × Value)), decode cX7_placeOrNothing pc = .ok (.ireturn, 1) → zz_G p l e zrm7_placeOrNothing s m args below meth c Q D A (wC ad cy) 1 pc lv [.int r] σ) (h : zq7_placeOrNothing σ Qp) : zz_G p l e zrm7_placeOrNothing s m args below meth c Q D A (wC ad cy) 1 0 [(0, .ref (ad 0))] [] σ := by
  unfold zq7_placeOrNothing at h
  refine zz_aload_n K 0 dX7_placeOrNothing_0 rfl rfl ?_
  refine zg7_0_0 K zin_X7_placeOrNothing_X7 zlk_X7_placeOrNothing_1 dX7_placeOrNothing_1 ?_
  refine zz_callVi1 K zz_nwC [] (zc6_isNone l D ad cy  σ _  h) gX7_placeOrNothing_X6_isNone rfl ⟨rfl, rfl⟩ zdsC_yX6_isNone_v ⟨Nat.le_of_ble_eq_true rfl, Nat.le_of_ble_eq_true rfl⟩ (wC_at_1 ad cy σ) rfl rfl rfl rfl (Nat.le_of_ble_eq_true rfl) dX7_placeOrNothing_4 (fun r4 h => ?_)
  refine zz_if_eq K 15 dX7_placeOrNothing_7 rfl (fun c5 => ?_) (fun c5 => ?_)
  · have h := (And.left h) c5
    refine zz_aload_n K 0 dX7_placeOrNothing_15 rfl rfl ?_
    refine zg7_0_0 K zin_X7_placeOrNothing_X7 zlk_X7_placeOrNothing_1 dX7_placeOrNothing_16 ?_
    refine zz_callVi1 K zz_nwC [] (zc6_placeNow l D ad cy  σ _  h) gX7_placeOrNothing_X6_placeNow rfl ⟨rfl, rfl⟩ zdsC_yX6_placeNow_v ⟨Nat.le_of_ble_eq_true rfl, Nat.le_of_ble_eq_true rfl⟩ (wC_at_1 ad cy σ) rfl rfl rfl rfl (Nat.le_of_ble_eq_true rfl) dX7_placeOrNothing_19 (fun r6 h => ?_)
    exact hret _ rfl h _ _ dX7_placeOrNothing_22
  · have h := (And.right h) c5
    refine zz_bipush K dX7_placeOrNothing_10 zcCb_m9 ?_
    refine zz_goto K 22 dX7_placeOrNothing_12 rfl ?_
    exact hret _ rfl h _ _ dX7_placeOrNothing_22
set_option maxRecDepth 100000 in
theorem zc7_placeOrNothing (l : Launch) (D : va_G) (ad : Nat → Nat) (cy : Nat → ClassId)  (σ : zz_St) (Qp : Int32 → Prop) (h : zq7_placeOrNothing σ Qp) : zz_Mi l yX7_placeOrNothing wsX7_placeOrNothing zrm7_placeOrNothing D (tysC cy) (wC ad cy) nwC [.ref (ad 0)] σ (fun r σ2 => σ2 = σ ∧ Qp r) :=
  zz_Mi.of zz_nwC (wC_ad ad cy) (by decide +kernel) rfl ⟨rfl, rfl⟩ (Nat.le_of_ble_eq_true rfl) (fun p e s m args below meth c A QW K hret => zu7_placeOrNothing_0 K  (fun r hn hq pc lv hd => hret r σ hn ⟨rfl, hq⟩ pc lv hd) h)
theorem zin_X7_image_X7 : ∀ w ∈ wsX70, w ∈ wsX7_image := fun w h => List.mem_cons_of_mem _ (List.mem_append_left _ (List.mem_append_right _ h))
theorem zlk_X7_image_1 : Cond.fieldLink RX7 30 "SolidsRolled" "imaged" "LSolidsRolled$World;" ∈ wsX7_image := List.mem_of_getElem? (i := 1) rfl
theorem zlk_X7_image_2 : Cond.fieldLink RX7 26 "SolidsRolled" "world" "LSolidsRolled$World;" ∈ wsX7_image := List.mem_of_getElem? (i := 2) rfl
theorem zlk_X7_image_3 : Cond.fieldLink RX7 33 "SolidsRolled" "hasImage" "Z" ∈ wsX7_image := List.mem_of_getElem? (i := 3) rfl
theorem zdsC_yX7_placeOrNothing_v : yX7_placeOrNothing.cls = RX7 ∧ yX7_placeOrNothing.cls ≠ "java/lang/invoke/MethodHandle" ∧ yX7_placeOrNothing.cls ≠ "java/lang/invoke/VarHandle" ∧ (parseMethodDescriptor yX7_placeOrNothing.desc).map (fun d => d.parameters.length) = some 0 := by decide +kernel
theorem zdsC_yX6_copyFrom_v : yX6_copyFrom.cls = RX6 ∧ yX6_copyFrom.cls ≠ "java/lang/invoke/MethodHandle" ∧ yX6_copyFrom.cls ≠ "java/lang/invoke/VarHandle" ∧ (parseMethodDescriptor yX6_copyFrom.desc).map (fun d => d.parameters.length) = some 1 := by decide +kernel
abbrev zrm7_image : Room := { frames := 2, cells := 0, slots := 0, locals := 61 }
set_option maxHeartbeats 4000000 in
set_option maxRecDepth 100000 in
theorem zu7_image_0 {p : Program} {l : Launch} {e : Env} {s : State} {m : MethodId} {args : Array Value} {below : List Frame} {meth : Method} {c : Code} {Q : State → Prop} {D : va_G} {A : Nat → Prop} {ad : Nat → Nat} {cy : Nat → ClassId}  {σ : zz_St} (K : zz_K p s m args c cX7_image 1 RX7 wsX7_image D (tysC cy) A (wC ad cy) nwC) {Qp : Int32 → zz_St → Prop} (hret : ∀ (r : Int32) (σ2 : zz_St), narrow .int (.int r) = .int r → Qp r σ2 → ∀ (pc : Nat) (lv : List (Nat × Value)), decode cX7_image pc = .ok (.ireturn, 1) → zz_G p l e zrm7_image s m args below meth c Q D A (wC ad cy) 1 pc lv [.int r] σ2) (h : zq7_image σ Qp) : zz_G p l e zrm7_image s m args below meth c Q D A (wC ad cy) 1 0 [(0, .ref (ad 0))] [] σ := by
  unfold zq7_image at h
  refine zz_aload_n K 0 dX7_image_0 rfl rfl ?_
  refine zg7_1_0 K zin_X7_image_X7 zlk_X7_image_1 dX7_image_1 ?_
  refine zz_aload_n K 0 dX7_image_4 rfl rfl ?_
  refine zg7_0_0 K zin_X7_image_X7 zlk_X7_image_2 dX7_image_5 ?_
  refine zz_callVv K zz_nwC [.ref (ad 1)] (zc6_copyFrom l D ad cy (0) (1) σ _ (by decide) (by decide) h) gX7_image_X6_copyFrom rfl ⟨rfl, rfl⟩ zdsC_yX6_copyFrom_v ⟨Nat.le_of_ble_eq_true rfl, Nat.le_of_ble_eq_true rfl⟩ (wC_at_2 ad cy σ) rfl rfl rfl rfl (Nat.le_of_ble_eq_true rfl) dX7_image_8 (fun g4 h => ?_)
  refine zz_aload_n K 0 dX7_image_11 rfl rfl ?_
  refine zz_iconst K dX7_image_12 zcCi_1 ?_
  refine zp7_2_0 K zin_X7_image_X7 zlk_X7_image_3 (Or.inr rfl) dX7_image_13 ?_
  refine zz_nms (fun g5 eg5 => ?_)
  have h := h g5 eg5
  refine zz_aload_n K 0 dX7_image_16 rfl rfl ?_
  refine zz_callVi1 K zz_nwC [] (zc7_placeOrNothing l D ad cy  g5 _  h) gX7_image_X7_placeOrNothing rfl ⟨rfl, rfl⟩ zdsC_yX7_placeOrNothing_v ⟨Nat.le_of_ble_eq_true rfl, Nat.le_of_ble_eq_true rfl⟩ (wC_at_0 ad cy g5) rfl rfl rfl rfl (Nat.le_of_ble_eq_true rfl) dX7_image_17 (fun r6 h => ?_)
  exact hret _ _ rfl h _ _ dX7_image_20
set_option maxRecDepth 100000 in
theorem zc7_image (l : Launch) (D : va_G) (ad : Nat → Nat) (cy : Nat → ClassId)  (σ : zz_St) (Qp : Int32 → zz_St → Prop) (h : zq7_image σ Qp) : zz_Mi l yX7_image wsX7_image zrm7_image D (tysC cy) (wC ad cy) nwC [.ref (ad 0)] σ Qp :=
  zz_Mi.of zz_nwC (wC_ad ad cy) (by decide +kernel) rfl ⟨rfl, rfl⟩ (Nat.le_of_ble_eq_true rfl) (fun p e s m args below meth c A QW K hret => zu7_image_0 K  hret h)
theorem zin_X7_on_X7 : ∀ w ∈ wsX70, w ∈ wsX7_on := fun w h => List.mem_cons_of_mem _ (List.mem_append_left _ (List.mem_append_left _ (List.mem_append_right _ h)))
theorem zlk_X7_on_1 : Cond.fieldLink RX7 33 "SolidsRolled" "hasImage" "Z" ∈ wsX7_on := List.mem_of_getElem? (i := 1) rfl
theorem zlk_X7_on_2 : Cond.fieldLink RX7 26 "SolidsRolled" "world" "LSolidsRolled$World;" ∈ wsX7_on := List.mem_of_getElem? (i := 2) rfl
theorem zlk_X7_on_3 : Cond.fieldLink RX7 30 "SolidsRolled" "imaged" "LSolidsRolled$World;" ∈ wsX7_on := List.mem_of_getElem? (i := 3) rfl
theorem zlk_X7_on_4 : Cond.fieldLink RX7 54 "SolidsRolled" "history" "LSolidsRolled$History;" ∈ wsX7_on := List.mem_of_getElem? (i := 4) rfl
abbrev zrm7_on : Room := { frames := 2, cells := 0, slots := 0, locals := 61 }
set_option maxHeartbeats 4000000 in
set_option maxRecDepth 100000 in
theorem zu7_on_0 {p : Program} {l : Launch} {e : Env} {s : State} {m : MethodId} {args : Array Value} {below : List Frame} {meth : Method} {c : Code} {Q : State → Prop} {D : va_G} {A : Nat → Prop} {ad : Nat → Nat} {cy : Nat → ClassId}  {σ : zz_St} (K : zz_K p s m args c cX7_on 1 RX7 wsX7_on D (tysC cy) A (wC ad cy) nwC) {Qp : Int32 → zz_St → Prop} (hret : ∀ (r : Int32) (σ2 : zz_St), narrow .int (.int r) = .int r → Qp r σ2 → ∀ (pc : Nat) (lv : List (Nat × Value)), decode cX7_on pc = .ok (.ireturn, 1) → zz_G p l e zrm7_on s m args below meth c Q D A (wC ad cy) 1 pc lv [.int r] σ2) (h : zq7_on σ Qp) : zz_G p l e zrm7_on s m args below meth c Q D A (wC ad cy) 1 0 [(0, .ref (ad 0))] [] σ := by
  unfold zq7_on at h
  refine zz_aload_n K 0 dX7_on_0 rfl rfl ?_
  refine zg7_2_0 K zin_X7_on_X7 zlk_X7_on_1 dX7_on_1 ?_
  refine zz_if_ne K 14 dX7_on_4 rfl (fun c7 => ?_) (fun c7 => ?_)
  · have h := (And.left h) c7
    refine zz_aload_n K 0 dX7_on_14 rfl rfl ?_
    refine zg7_0_0 K zin_X7_on_X7 zlk_X7_on_2 dX7_on_15 ?_
    refine zz_aload_n K 0 dX7_on_18 rfl rfl ?_
    refine zg7_1_0 K zin_X7_on_X7 zlk_X7_on_3 dX7_on_19 ?_
    refine zz_callVv K zz_nwC [.ref (ad 2)] (zc6_copyFrom l D ad cy (1) (0) σ _ (by decide) (by decide) h) gX7_on_X6_copyFrom rfl ⟨rfl, rfl⟩ zdsC_yX6_copyFrom_v ⟨Nat.le_of_ble_eq_true rfl, Nat.le_of_ble_eq_true rfl⟩ (wC_at_1 ad cy σ) rfl rfl rfl rfl (Nat.le_of_ble_eq_true rfl) dX7_on_22 (fun g8 h => ?_)
    refine zz_aload_n K 0 dX7_on_25 rfl rfl ?_
    refine zg7_5_0 K zin_X7_on_X7 zlk_X7_on_4 dX7_on_26 ?_
    refine zz_callVv K zz_nwC [] (zc0_forget l D ad cy  g8 _  h) gX7_on_X0_forget rfl ⟨rfl, rfl⟩ zdsC_yX0_forget_v ⟨Nat.le_of_ble_eq_true rfl, Nat.le_of_ble_eq_true rfl⟩ (wC_at_5 ad cy g8) rfl rfl rfl rfl (Nat.le_of_ble_eq_true rfl) dX7_on_29 (fun g9 h => ?_)
    refine zz_aload_n K 0 dX7_on_32 rfl rfl ?_
    refine zz_callVi1 K zz_nwC [] (zc7_placeOrNothing l D ad cy  g9 _  h) gX7_on_X7_placeOrNothing rfl ⟨rfl, rfl⟩ zdsC_yX7_placeOrNothing_v ⟨Nat.le_of_ble_eq_true rfl, Nat.le_of_ble_eq_true rfl⟩ (wC_at_0 ad cy g9) rfl rfl rfl rfl (Nat.le_of_ble_eq_true rfl) dX7_on_33 (fun r10 h => ?_)
    exact hret _ _ rfl h _ _ dX7_on_36
  · have h := (And.right h) c7
    refine zz_aload_n K 0 dX7_on_7 rfl rfl ?_
    refine zz_bipush K dX7_on_8 zcCb_m3 ?_
    refine zz_callVi K zz_nwC [.int (-3 : Int32)] (zc7_refuse l D ad cy (-3 : Int32) σ _  h) gX7_on_X7_refuse rfl ⟨rfl, rfl⟩ zdsC_yX7_refuse_v ⟨Nat.le_of_ble_eq_true rfl, Nat.le_of_ble_eq_true rfl⟩ (wC_at_0 ad cy σ) rfl rfl rfl rfl (Nat.le_of_ble_eq_true rfl) dX7_on_10 (fun r11 g12 h => ?_)
    exact hret _ _ rfl h _ _ dX7_on_13
set_option maxRecDepth 100000 in
theorem zc7_on (l : Launch) (D : va_G) (ad : Nat → Nat) (cy : Nat → ClassId)  (σ : zz_St) (Qp : Int32 → zz_St → Prop) (h : zq7_on σ Qp) : zz_Mi l yX7_on wsX7_on zrm7_on D (tysC cy) (wC ad cy) nwC [.ref (ad 0)] σ Qp :=
  zz_Mi.of zz_nwC (wC_ad ad cy) (by decide +kernel) rfl ⟨rfl, rfl⟩ (Nat.le_of_ble_eq_true rfl) (fun p e s m args below meth c A QW K hret => zu7_on_0 K  hret h)
theorem zcCb_11 : (Int8.ofInt (11)).toInt32 = (11 : Int32) := by decide
theorem zin_X7_count_X7 : ∀ w ∈ wsX70, w ∈ wsX7_count := fun w h => List.mem_cons_of_mem _ (List.mem_append_left _ (List.mem_append_left _ (List.mem_append_left _ (List.mem_append_right _ h))))
theorem zlk_X7_count_1 : Cond.fieldLink RX7 72 "SolidsRolled" "refused" "[I" ∈ wsX7_count := List.mem_of_getElem? (i := 1) rfl
theorem zlk_X7_count_2 : Cond.fieldLink RX7 26 "SolidsRolled" "world" "LSolidsRolled$World;" ∈ wsX7_count := List.mem_of_getElem? (i := 2) rfl
theorem zin_X7_count_X6 : ∀ w ∈ wsX60, w ∈ wsX7_count := fun w h => List.mem_cons_of_mem _ (List.mem_append_left _ (List.mem_append_left _ (List.mem_append_right _ h)))
theorem zlk_X7_count_3 : Cond.fieldLink RX7 339 "SolidsRolled$World" "rows" "I" ∈ wsX7_count := List.mem_of_getElem? (i := 3) rfl
theorem zlk_X7_count_4 : Cond.fieldLink RX7 342 "SolidsRolled$World" "columns" "I" ∈ wsX7_count := List.mem_of_getElem? (i := 4) rfl
theorem zlk_X7_count_5 : Cond.fieldLink RX7 138 "SolidsRolled$World" "ink" "I" ∈ wsX7_count := List.mem_of_getElem? (i := 5) rfl
theorem zlk_X7_count_6 : Cond.fieldLink RX7 40 "SolidsRolled" "letters" "LSolidsRolled$Letters;" ∈ wsX7_count := List.mem_of_getElem? (i := 6) rfl
theorem zin_X7_count_X1 : ∀ w ∈ wsX10, w ∈ wsX7_count := fun w h => List.mem_cons_of_mem _ (List.mem_append_left _ (List.mem_append_right _ h))
theorem zlk_X7_count_7 : Cond.fieldLink RX7 87 "SolidsRolled$Letters" "size" "I" ∈ wsX7_count := List.mem_of_getElem? (i := 7) rfl
theorem zlk_X7_count_8 : Cond.fieldLink RX7 54 "SolidsRolled" "history" "LSolidsRolled$History;" ∈ wsX7_count := List.mem_of_getElem? (i := 8) rfl
theorem zin_X7_count_X0 : ∀ w ∈ wsX00, w ∈ wsX7_count := fun w h => List.mem_cons_of_mem _ (List.mem_append_right _ h)
theorem zlk_X7_count_9 : Cond.fieldLink RX7 214 "SolidsRolled$History" "size" "I" ∈ wsX7_count := List.mem_of_getElem? (i := 9) rfl
theorem zlk_X7_count_10 : Cond.fieldLink RX7 163 "SolidsRolled$World" "kind" "I" ∈ wsX7_count := List.mem_of_getElem? (i := 10) rfl
theorem zdsC_yX6_countTiles_v : yX6_countTiles.cls = RX6 ∧ yX6_countTiles.cls ≠ "java/lang/invoke/MethodHandle" ∧ yX6_countTiles.cls ≠ "java/lang/invoke/VarHandle" ∧ (parseMethodDescriptor yX6_countTiles.desc).map (fun d => d.parameters.length) = some 1 := by decide +kernel
abbrev zrm7_count : Room := { frames := 2, cells := 0, slots := 0, locals := 43 }
set_option maxHeartbeats 4000000 in
set_option maxRecDepth 100000 in
theorem zu7_count_22 {p : Program} {l : Launch} {e : Env} {s : State} {m : MethodId} {args : Array Value} {below : List Frame} {meth : Method} {c : Code} {Q : State → Prop} {D : va_G} {A : Nat → Prop} {ad : Nat → Nat} {cy : Nat → ClassId} {v1 : Int32} {σ : zz_St} (K : zz_K p s m args c cX7_count 2 RX7 wsX7_count D (tysC cy) A (wC ad cy) nwC) {Qp : Int32 → Prop} (hret : ∀ (r : Int32), narrow .int (.int r) = .int r → Qp r → ∀ (pc : Nat) (lv : List (Nat × Value)), decode cX7_count pc = .ok (.ireturn, 1) → zz_G p l e zrm7_count s m args below meth c Q D A (wC ad cy) 2 pc lv [.int r] σ) (h : zq7_count_22 v1 σ Qp) : zz_G p l e zrm7_count s m args below meth c Q D A (wC ad cy) 2 22 [(0, .ref (ad 0)), (1, .int v1)] [] σ := by
  unfold zq7_count_22 at h
  refine zz_iload_n K 1 dX7_count_22 rfl rfl ?_
  by_cases c9 : v1 = (0 : Int32)
  · have h := (And.left h) c9
    refine zz_tin K (0) 72 dX7_count_23 (by rw [c9]; decide) (by decide) (by decide) rfl rfl ?_
    refine zz_aload_n K 0 dX7_count_72 rfl rfl ?_
    refine zg7_0_0 K zin_X7_count_X7 zlk_X7_count_2 dX7_count_73 ?_
    refine zg6_4_0 K zin_X7_count_X6 zlk_X7_count_3 dX7_count_76 ?_
    exact hret _ rfl h _ _ dX7_count_79
  have h := (And.right h) c9
  by_cases c10 : v1 = (1 : Int32)
  · have h := (And.left h) c10
    refine zz_tin K (1) 80 dX7_count_23 (by rw [c10]; decide) (by decide) (by decide) rfl rfl ?_
    refine zz_aload_n K 0 dX7_count_80 rfl rfl ?_
    refine zg7_0_0 K zin_X7_count_X7 zlk_X7_count_2 dX7_count_81 ?_
    refine zg6_5_0 K zin_X7_count_X6 zlk_X7_count_4 dX7_count_84 ?_
    exact hret _ rfl h _ _ dX7_count_87
  have h := (And.right h) c10
  by_cases c11 : v1 = (2 : Int32)
  · have h := (And.left h) c11
    refine zz_tin K (2) 88 dX7_count_23 (by rw [c11]; decide) (by decide) (by decide) rfl rfl ?_
    refine zz_aload_n K 0 dX7_count_88 rfl rfl ?_
    refine zg7_0_0 K zin_X7_count_X7 zlk_X7_count_2 dX7_count_89 ?_
    refine zz_iconst K dX7_count_92 zcCi_1 ?_
    refine zz_callVi1 K zz_nwC [.int (1 : Int32)] (zc6_countTiles l D ad cy (1 : Int32) σ _  h) gX7_count_X6_countTiles rfl ⟨rfl, rfl⟩ zdsC_yX6_countTiles_v ⟨Nat.le_of_ble_eq_true rfl, Nat.le_of_ble_eq_true rfl⟩ (wC_at_1 ad cy σ) rfl rfl rfl rfl (Nat.le_of_ble_eq_true rfl) dX7_count_93 (fun r6 h => ?_)
    exact hret _ rfl h _ _ dX7_count_96
  have h := (And.right h) c11
  by_cases c12 : v1 = (3 : Int32)
  · have h := (And.left h) c12
    refine zz_tin K (3) 97 dX7_count_23 (by rw [c12]; decide) (by decide) (by decide) rfl rfl ?_
    refine zz_aload_n K 0 dX7_count_97 rfl rfl ?_
    refine zg7_0_0 K zin_X7_count_X7 zlk_X7_count_2 dX7_count_98 ?_
    refine zz_iconst K dX7_count_101 zcCi_2 ?_
    refine zz_callVi1 K zz_nwC [.int (2 : Int32)] (zc6_countTiles l D ad cy (2 : Int32) σ _  h) gX7_count_X6_countTiles rfl ⟨rfl, rfl⟩ zdsC_yX6_countTiles_v ⟨Nat.le_of_ble_eq_true rfl, Nat.le_of_ble_eq_true rfl⟩ (wC_at_1 ad cy σ) rfl rfl rfl rfl (Nat.le_of_ble_eq_true rfl) dX7_count_102 (fun r7 h => ?_)
    exact hret _ rfl h _ _ dX7_count_105
  have h := (And.right h) c12
  by_cases c13 : v1 = (4 : Int32)
  · have h := (And.left h) c13
    refine zz_tin K (4) 106 dX7_count_23 (by rw [c13]; decide) (by decide) (by decide) rfl rfl ?_
    refine zz_aload_n K 0 dX7_count_106 rfl rfl ?_
    refine zg7_0_0 K zin_X7_count_X7 zlk_X7_count_2 dX7_count_107 ?_
    refine zz_callVi1 K zz_nwC [] (zc6_countPrints l D ad cy  σ _  h) gX7_count_X6_countPrints rfl ⟨rfl, rfl⟩ zdsC_yX6_countPrints_v ⟨Nat.le_of_ble_eq_true rfl, Nat.le_of_ble_eq_true rfl⟩ (wC_at_1 ad cy σ) rfl rfl rfl rfl (Nat.le_of_ble_eq_true rfl) dX7_count_110 (fun r8 h => ?_)
    exact hret _ rfl h _ _ dX7_count_113
  have h := (And.right h) c13
  by_cases c14 : v1 = (5 : Int32)
  · have h := (And.left h) c14
    refine zz_tin K (5) 114 dX7_count_23 (by rw [c14]; decide) (by decide) (by decide) rfl rfl ?_
    refine zz_aload_n K 0 dX7_count_114 rfl rfl ?_
    refine zg7_0_0 K zin_X7_count_X7 zlk_X7_count_2 dX7_count_115 ?_
    refine zg6_8_0 K zin_X7_count_X6 zlk_X7_count_5 dX7_count_118 ?_
    exact hret _ rfl h _ _ dX7_count_121
  have h := (And.right h) c14
  by_cases c15 : v1 = (6 : Int32)
  · have h := (And.left h) c15
    refine zz_tin K (6) 122 dX7_count_23 (by rw [c15]; decide) (by decide) (by decide) rfl rfl ?_
    refine zz_aload_n K 0 dX7_count_122 rfl rfl ?_
    refine zg7_3_0 K zin_X7_count_X7 zlk_X7_count_6 dX7_count_123 ?_
    refine zg1_1_0 K zin_X7_count_X1 zlk_X7_count_7 dX7_count_126 ?_
    exact hret _ rfl h _ _ dX7_count_129
  have h := (And.right h) c15
  by_cases c16 : v1 = (7 : Int32)
  · have h := (And.left h) c16
    refine zz_tin K (7) 130 dX7_count_23 (by rw [c16]; decide) (by decide) (by decide) rfl rfl ?_
    refine zz_aload_n K 0 dX7_count_130 rfl rfl ?_
    refine zg7_5_0 K zin_X7_count_X7 zlk_X7_count_8 dX7_count_131 ?_
    refine zg0_3_0 K zin_X7_count_X0 zlk_X7_count_9 dX7_count_134 ?_
    exact hret _ rfl h _ _ dX7_count_137
  have h := (And.right h) c16
  by_cases c17 : v1 = (8 : Int32)
  · have h := (And.left h) c17
    refine zz_tin K (8) 138 dX7_count_23 (by rw [c17]; decide) (by decide) (by decide) rfl rfl ?_
    refine zz_aload_n K 0 dX7_count_138 rfl rfl ?_
    refine zg7_0_0 K zin_X7_count_X7 zlk_X7_count_2 dX7_count_139 ?_
    refine zg6_6_0 K zin_X7_count_X6 zlk_X7_count_10 dX7_count_142 ?_
    exact hret _ rfl h _ _ dX7_count_145
  have h := (And.right h) c17
  refine zz_tout K 146 dX7_count_23 (zz_tsw v1 (0) (8) (fun z h1 h2 => by
    have hz : z = 0 ∨ z = 1 ∨ z = 2 ∨ z = 3 ∨ z = 4 ∨ z = 5 ∨ z = 6 ∨ z = 7 ∨ z = 8 := by omega
    rcases hz with rfl | rfl | rfl | rfl | rfl | rfl | rfl | rfl | rfl <;> intro q
    · exact c9 (Int32.toInt_inj.mp (q.trans (by decide)))
    · exact c10 (Int32.toInt_inj.mp (q.trans (by decide)))
    · exact c11 (Int32.toInt_inj.mp (q.trans (by decide)))
    · exact c12 (Int32.toInt_inj.mp (q.trans (by decide)))
    · exact c13 (Int32.toInt_inj.mp (q.trans (by decide)))
    · exact c14 (Int32.toInt_inj.mp (q.trans (by decide)))
    · exact c15 (Int32.toInt_inj.mp (q.trans (by decide)))
    · exact c16 (Int32.toInt_inj.mp (q.trans (by decide)))
    · exact c17 (Int32.toInt_inj.mp (q.trans (by decide))))) rfl ?_
  refine zz_bipush K dX7_count_146 zcCb_m9 ?_
  exact hret _ rfl h _ _ dX7_count_148
set_option maxHeartbeats 4000000 in
set_option maxRecDepth 100000 in
theorem zu7_count_0 {p : Program} {l : Launch} {e : Env} {s : State} {m : MethodId} {args : Array Value} {below : List Frame} {meth : Method} {c : Code} {Q : State → Prop} {D : va_G} {A : Nat → Prop} {ad : Nat → Nat} {cy : Nat → ClassId} {v1 : Int32} {σ : zz_St} (K : zz_K p s m args c cX7_count 2 RX7 wsX7_count D (tysC cy) A (wC ad cy) nwC) {Qp : Int32 → Prop} (hret : ∀ (r : Int32), narrow .int (.int r) = .int r → Qp r → ∀ (pc : Nat) (lv : List (Nat × Value)), decode cX7_count pc = .ok (.ireturn, 1) → zz_G p l e zrm7_count s m args below meth c Q D A (wC ad cy) 2 pc lv [.int r] σ) (h : zq7_count v1 σ Qp) : zz_G p l e zrm7_count s m args below meth c Q D A (wC ad cy) 2 0 [(0, .ref (ad 0)), (1, .int v1)] [] σ := by
  unfold zq7_count at h
  refine zz_iload_n K 1 dX7_count_0 rfl rfl ?_
  refine zz_bipush K dX7_count_1 zcCb_11 ?_
  refine zz_icmp_lt K 22 dX7_count_3 rfl (fun c18 => ?_) (fun c18 => ?_)
  · have h := (And.left h) c18
    exact zu7_count_22 K hret h
  · have h := (And.right h) c18
    refine zz_iload_n K 1 dX7_count_6 rfl rfl ?_
    refine zz_bipush K dX7_count_7 zcCb_16 ?_
    refine zz_icmp_gt K 22 dX7_count_9 rfl (fun c19 => ?_) (fun c19 => ?_)
    · have h := (And.left h) c19
      exact zu7_count_22 K hret h
    · have h := (And.right h) c19
      refine zz_aload_n K 0 dX7_count_12 rfl rfl ?_
      refine zg7_8_0 K zin_X7_count_X7 zlk_X7_count_1 dX7_count_13 ?_
      refine zz_iload_n K 1 dX7_count_16 rfl rfl ?_
      refine zz_bipush K dX7_count_17 zcCb_10 ?_
      refine zz_isub K dX7_count_19 ?_
      obtain ⟨hin, h⟩ := h
      refine zz_iaload K 0 (wC_at_45 ad cy σ) rfl hin dX7_count_20 ?_
      exact hret _ rfl h _ _ dX7_count_21
set_option maxRecDepth 100000 in
theorem zc7_count (l : Launch) (D : va_G) (ad : Nat → Nat) (cy : Nat → ClassId) (v1 : Int32) (σ : zz_St) (Qp : Int32 → Prop) (h : zq7_count v1 σ Qp) : zz_Mi l yX7_count wsX7_count zrm7_count D (tysC cy) (wC ad cy) nwC [.ref (ad 0), .int v1] σ (fun r σ2 => σ2 = σ ∧ Qp r) :=
  zz_Mi.of zz_nwC (wC_ad ad cy) (by decide +kernel) rfl ⟨rfl, rfl⟩ (Nat.le_of_ble_eq_true rfl) (fun p e s m args below meth c A QW K hret => zu7_count_0 K  (fun r hn hq pc lv hd => hret r σ hn ⟨rfl, hq⟩ pc lv hd) h)
