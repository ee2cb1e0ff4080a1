theorem zlk_J13_bitCount_95d88_1 : Cond.constantLong RJ13 314 (6148914691236517205) ∈ wsJ13_bitCount_95d88 := List.mem_of_getElem? (i := 1) rfl
theorem zlk_J13_bitCount_95d88_2 : Cond.constantLong RJ13 316 (3689348814741910323) ∈ wsJ13_bitCount_95d88 := List.mem_of_getElem? (i := 2) rfl
theorem zlk_J13_bitCount_95d88_3 : Cond.constantLong RJ13 318 (1085102592571150095) ∈ wsJ13_bitCount_95d88 := List.mem_of_getElem? (i := 3) rfl
theorem zcCb_8 : (Int8.ofInt (8)).toInt32 = (8 : Int32) := by decide
theorem zcCb_16 : (Int8.ofInt (16)).toInt32 = (16 : Int32) := by decide
theorem zcCb_32 : (Int8.ofInt (32)).toInt32 = (32 : Int32) := by decide
theorem zcCb_127 : (Int8.ofInt (127)).toInt32 = (127 : Int32) := by decide
abbrev zrmJ13_bitCount_95d88 : Room := { frames := 0, cells := 0, slots := 0, locals := 0 }
set_option maxHeartbeats 4000000 in
set_option maxRecDepth 100000 in
theorem zuJ13_bitCount_95d88_0 {p : Program} {l : Launch} {e : Env} {s : State} {m : MethodId} {args : Array Value} {below : List Frame} {meth : Method} {c : Code} {Q : State → Prop} {D : va_G} {A : Nat → Prop} {ad : Nat → Nat} {cy : Nat → ClassId} {v0 : Int64} {σ : zz_St} (K : zz_K p s m args c cJ13_bitCount_95d88 2 RJ13 wsJ13_bitCount_95d88 D (tysC cy) A (wC ad cy) nwC) {Qp : Int32 → Prop} (hret : ∀ (r : Int32), narrow .int (.int r) = .int r → Qp r → ∀ (pc : Nat) (lv : List (Nat × Value)), decode cJ13_bitCount_95d88 pc = .ok (.ireturn, 1) → zz_G p l e zrmJ13_bitCount_95d88 s m args below meth c Q D A (wC ad cy) 2 pc lv [.int r] σ) (h : zqJ13_bitCount_95d88 v0 Qp) : zz_G p l e zrmJ13_bitCount_95d88 s m args below meth c Q D A (wC ad cy) 2 0 [(0, .long v0)] [] σ := by
  unfold zqJ13_bitCount_95d88 at h
  refine zz_lload_n K 0 dJ13_bitCount_95d88_0 rfl rfl ?_
  refine zz_lload_n K 0 dJ13_bitCount_95d88_1 rfl rfl ?_
  refine zz_iconst K dJ13_bitCount_95d88_2 zcCi_1 ?_
  refine zz_lushr K dJ13_bitCount_95d88_3 ?_
  refine zz_ldc2 K zlk_J13_bitCount_95d88_1 dJ13_bitCount_95d88_4 ?_
  refine zz_land K dJ13_bitCount_95d88_7 ?_
  refine zz_lsub K dJ13_bitCount_95d88_8 ?_
  refine zz_nml (fun x7 ex7 => ?_)
  have h := h x7 ex7
  refine zz_lstore_n K [(0, .long x7)] dJ13_bitCount_95d88_9 rfl (by decide) rfl ?_
  refine zz_lload_n K 0 dJ13_bitCount_95d88_10 rfl rfl ?_
  refine zz_ldc2 K zlk_J13_bitCount_95d88_2 dJ13_bitCount_95d88_11 ?_
  refine zz_land K dJ13_bitCount_95d88_14 ?_
  refine zz_lload_n K 0 dJ13_bitCount_95d88_15 rfl rfl ?_
  refine zz_iconst K dJ13_bitCount_95d88_16 zcCi_2 ?_
  refine zz_lushr K dJ13_bitCount_95d88_17 ?_
  refine zz_ldc2 K zlk_J13_bitCount_95d88_2 dJ13_bitCount_95d88_18 ?_
  refine zz_land K dJ13_bitCount_95d88_21 ?_
  refine zz_ladd K dJ13_bitCount_95d88_22 ?_
  refine zz_nml (fun x8 ex8 => ?_)
  have h := h x8 ex8
  refine zz_lstore_n K [(0, .long x8)] dJ13_bitCount_95d88_23 rfl (by decide) rfl ?_
  refine zz_lload_n K 0 dJ13_bitCount_95d88_24 rfl rfl ?_
  refine zz_lload_n K 0 dJ13_bitCount_95d88_25 rfl rfl ?_
  refine zz_iconst K dJ13_bitCount_95d88_26 zcCi_4 ?_
  refine zz_lushr K dJ13_bitCount_95d88_27 ?_
  refine zz_ladd K dJ13_bitCount_95d88_28 ?_
  refine zz_ldc2 K zlk_J13_bitCount_95d88_3 dJ13_bitCount_95d88_29 ?_
  refine zz_land K dJ13_bitCount_95d88_32 ?_
  refine zz_nml (fun x9 ex9 => ?_)
  have h := h x9 ex9
  refine zz_lstore_n K [(0, .long x9)] dJ13_bitCount_95d88_33 rfl (by decide) rfl ?_
  refine zz_lload_n K 0 dJ13_bitCount_95d88_34 rfl rfl ?_
  refine zz_lload_n K 0 dJ13_bitCount_95d88_35 rfl rfl ?_
  refine zz_bipush K dJ13_bitCount_95d88_36 zcCb_8 ?_
  refine zz_lushr K dJ13_bitCount_95d88_38 ?_
  refine zz_ladd K dJ13_bitCount_95d88_39 ?_
  refine zz_nml (fun x10 ex10 => ?_)
  have h := h x10 ex10
  refine zz_lstore_n K [(0, .long x10)] dJ13_bitCount_95d88_40 rfl (by decide) rfl ?_
  refine zz_lload_n K 0 dJ13_bitCount_95d88_41 rfl rfl ?_
  refine zz_lload_n K 0 dJ13_bitCount_95d88_42 rfl rfl ?_
  refine zz_bipush K dJ13_bitCount_95d88_43 zcCb_16 ?_
  refine zz_lushr K dJ13_bitCount_95d88_45 ?_
  refine zz_ladd K dJ13_bitCount_95d88_46 ?_
  refine zz_nml (fun x11 ex11 => ?_)
  have h := h x11 ex11
  refine zz_lstore_n K [(0, .long x11)] dJ13_bitCount_95d88_47 rfl (by decide) rfl ?_
  refine zz_lload_n K 0 dJ13_bitCount_95d88_48 rfl rfl ?_
  refine zz_lload_n K 0 dJ13_bitCount_95d88_49 rfl rfl ?_
  refine zz_bipush K dJ13_bitCount_95d88_50 zcCb_32 ?_
  refine zz_lushr K dJ13_bitCount_95d88_52 ?_
  refine zz_ladd K dJ13_bitCount_95d88_53 ?_
  refine zz_nml (fun x12 ex12 => ?_)
  have h := h x12 ex12
  refine zz_lstore_n K [(0, .long x12)] dJ13_bitCount_95d88_54 rfl (by decide) rfl ?_
  refine zz_lload_n K 0 dJ13_bitCount_95d88_55 rfl rfl ?_
  refine zz_l2i K dJ13_bitCount_95d88_56 ?_
  refine zz_bipush K dJ13_bitCount_95d88_57 zcCb_127 ?_
  refine zz_iand K dJ13_bitCount_95d88_59 ?_
  exact hret _ rfl h _ _ dJ13_bitCount_95d88_60
set_option maxRecDepth 100000 in
theorem zcJ13_bitCount_95d88 (l : Launch) (D : va_G) (ad : Nat → Nat) (cy : Nat → ClassId) (v0 : Int64) (σ : zz_St) (Qp : Int32 → Prop) (h : zqJ13_bitCount_95d88 v0 Qp) : zz_Mi l yJ13_bitCount_95d88 wsJ13_bitCount_95d88 zrmJ13_bitCount_95d88 D (tysC cy) (wC ad cy) nwC [.long v0] σ (fun r σ2 => σ2 = σ ∧ Qp r) :=
  zz_Mi.of zz_nwC (wC_ad ad cy) (by decide +kernel) rfl ⟨rfl, rfl⟩ (Nat.le_of_ble_eq_true rfl) (fun p e s m args below meth c A QW K hret => zuJ13_bitCount_95d88_0 K  (fun r hn hq pc lv hd => hret r σ hn ⟨rfl, hq⟩ pc lv hd) h)
theorem zin_X7_aboutSolid_X7 : ∀ w ∈ wsX70, w ∈ wsX7_aboutSolid := fun w h => List.mem_cons_of_mem _ (List.mem_append_left _ (List.mem_append_left _ (List.mem_append_right _ h)))
theorem zlk_X7_aboutSolid_1 : Cond.fieldLink RX7 26 "SolidsRolled" "world" "LSolidsRolled$World;" ∈ wsX7_aboutSolid := List.mem_of_getElem? (i := 1) rfl
theorem zin_X7_aboutSolid_X6 : ∀ w ∈ wsX60, w ∈ wsX7_aboutSolid := fun w h => List.mem_cons_of_mem _ (List.mem_append_left _ (List.mem_append_right _ h))
theorem zlk_X7_aboutSolid_2 : Cond.fieldLink RX7 163 "SolidsRolled$World" "kind" "I" ∈ wsX7_aboutSolid := List.mem_of_getElem? (i := 2) rfl
theorem zlk_X7_aboutSolid_3 : Cond.fieldLink RX7 169 "SolidsRolled$World" "state" "I" ∈ wsX7_aboutSolid := List.mem_of_getElem? (i := 3) rfl
theorem zdsC_yX6_placeNow_v : yX6_placeNow.cls = RX6 ∧ yX6_placeNow.cls ≠ "java/lang/invoke/MethodHandle" ∧ yX6_placeNow.cls ≠ "java/lang/invoke/VarHandle" ∧ (parseMethodDescriptor yX6_placeNow.desc).map (fun d => d.parameters.length) = some 0 := by decide +kernel
theorem zdsC_yJ13_bitCount_95d88_s : yJ13_bitCount_95d88.cls ≠ "java/lang/invoke/MethodHandle" ∧ yJ13_bitCount_95d88.cls ≠ "java/lang/invoke/VarHandle" ∧ (parseMethodDescriptor yJ13_bitCount_95d88.desc).map (fun d => d.parameters.length) = some 1 := by decide +kernel
theorem zdsC_yX6_pointsUp_v : yX6_pointsUp.cls = RX6 ∧ yX6_pointsUp.cls ≠ "java/lang/invoke/MethodHandle" ∧ yX6_pointsUp.cls ≠ "java/lang/invoke/VarHandle" ∧ (parseMethodDescriptor yX6_pointsUp.desc).map (fun d => d.parameters.length) = some 1 := by decide +kernel
abbrev zrm7_aboutSolid : Room := { frames := 3, cells := 0, slots := 0, locals := 65 }
set_option maxHeartbeats 4000000 in
set_option maxRecDepth 100000 in
theorem zu7_aboutSolid_0 {p : Program} {l : Launch} {e : Env} {s : State} {m : MethodId} {args : Array Value} {below : List Frame} {meth : Method} {c : Code} {Q : State → Prop} {D : va_G} {A : Nat → Prop} {ad : Nat → Nat} {cy : Nat → ClassId} {v1 : Int32} {σ : zz_St} (K : zz_K p s m args c cX7_aboutSolid 2 RX7 wsX7_aboutSolid D (tysC cy) A (wC ad cy) nwC) {Qp : Int32 → Prop} (hret : ∀ (r : Int32), narrow .int (.int r) = .int r → Qp r → ∀ (pc : Nat) (lv : List (Nat × Value)), decode cX7_aboutSolid pc = .ok (.ireturn, 1) → zz_G p l e zrm7_aboutSolid s m args below meth c Q D A (wC ad cy) 2 pc lv [.int r] σ) (h : zq7_aboutSolid v1 σ Qp) : zz_G p l e zrm7_aboutSolid s m args below meth c Q D A (wC ad cy) 2 0 [(0, .ref (ad 0)), (1, .int v1)] [] σ := by
  unfold zq7_aboutSolid at h
  refine zz_iload_n K 1 dX7_aboutSolid_0 rfl rfl ?_
  by_cases c27 : v1 = (0 : Int32)
  · have h := (And.left h) c27
    refine zz_tin K (0) 36 dX7_aboutSolid_1 (by rw [c27]; decide) (by decide) (by decide) rfl rfl ?_
    refine zz_aload_n K 0 dX7_aboutSolid_36 rfl rfl ?_
    refine zg7_0_0 K zin_X7_aboutSolid_X7 zlk_X7_aboutSolid_1 dX7_aboutSolid_37 ?_
    refine zg6_6_0 K zin_X7_aboutSolid_X6 zlk_X7_aboutSolid_2 dX7_aboutSolid_40 ?_
    exact hret _ rfl h _ _ dX7_aboutSolid_43
  have h := (And.right h) c27
  by_cases c28 : v1 = (1 : Int32)
  · have h := (And.left h) c28
    refine zz_tin K (1) 44 dX7_aboutSolid_1 (by rw [c28]; decide) (by decide) (by decide) rfl rfl ?_
    refine zz_aload_n K 0 dX7_aboutSolid_44 rfl rfl ?_
    refine zg7_0_0 K zin_X7_aboutSolid_X7 zlk_X7_aboutSolid_1 dX7_aboutSolid_45 ?_
    refine zz_callVi1 K zz_nwC [] (zc6_placeNow l D ad cy  σ _  h) gX7_aboutSolid_X6_placeNow rfl ⟨rfl, rfl⟩ zdsC_yX6_placeNow_v ⟨Nat.le_of_ble_eq_true rfl, Nat.le_of_ble_eq_true rfl⟩ (wC_at_1 ad cy σ) rfl rfl rfl rfl (Nat.le_of_ble_eq_true rfl) dX7_aboutSolid_48 (fun r14 h => ?_)
    exact hret _ rfl h _ _ dX7_aboutSolid_51
  have h := (And.right h) c28
  by_cases c29 : v1 = (2 : Int32)
  · have h := (And.left h) c29
    refine zz_tin K (2) 52 dX7_aboutSolid_1 (by rw [c29]; decide) (by decide) (by decide) rfl rfl ?_
    refine zz_aload_n K 0 dX7_aboutSolid_52 rfl rfl ?_
    refine zg7_0_0 K zin_X7_aboutSolid_X7 zlk_X7_aboutSolid_1 dX7_aboutSolid_53 ?_
    refine zz_aload_n K 0 dX7_aboutSolid_56 rfl rfl ?_
    refine zg7_0_0 K zin_X7_aboutSolid_X7 zlk_X7_aboutSolid_1 dX7_aboutSolid_57 ?_
    refine zg6_7_0 K zin_X7_aboutSolid_X6 zlk_X7_aboutSolid_3 dX7_aboutSolid_60 ?_
    refine zz_callVi1 K zz_nwC [.int ((σ).1 8)] (zc6_faceBelow l D ad cy ((σ).1 8) σ _  h) gX7_aboutSolid_X6_faceBelow rfl ⟨rfl, rfl⟩ zdsC_yX6_faceBelow_v ⟨Nat.le_of_ble_eq_true rfl, Nat.le_of_ble_eq_true rfl⟩ (wC_at_1 ad cy σ) rfl rfl rfl rfl (Nat.le_of_ble_eq_true rfl) dX7_aboutSolid_63 (fun r15 h => ?_)
    exact hret _ rfl h _ _ dX7_aboutSolid_66
  have h := (And.right h) c29
  by_cases c30 : v1 = (3 : Int32)
  · have h := (And.left h) c30
    refine zz_tin K (3) 67 dX7_aboutSolid_1 (by rw [c30]; decide) (by decide) (by decide) rfl rfl ?_
    refine zz_aload_n K 0 dX7_aboutSolid_67 rfl rfl ?_
    refine zg7_0_0 K zin_X7_aboutSolid_X7 zlk_X7_aboutSolid_1 dX7_aboutSolid_68 ?_
    refine zz_aload_n K 0 dX7_aboutSolid_71 rfl rfl ?_
    refine zg7_0_0 K zin_X7_aboutSolid_X7 zlk_X7_aboutSolid_1 dX7_aboutSolid_72 ?_
    refine zg6_7_0 K zin_X7_aboutSolid_X6 zlk_X7_aboutSolid_3 dX7_aboutSolid_75 ?_
    refine zz_callVl1 K zz_nwC [.int ((σ).1 8)] (zc6_tilesUnder l D ad cy ((σ).1 8) σ _  h) gX7_aboutSolid_X6_tilesUnder rfl ⟨rfl, rfl⟩ zdsC_yX6_tilesUnder_v ⟨Nat.le_of_ble_eq_true rfl, Nat.le_of_ble_eq_true rfl⟩ (wC_at_1 ad cy σ) rfl rfl rfl rfl (Nat.le_of_ble_eq_true rfl) dX7_aboutSolid_78 (fun r16 h => ?_)
    refine zz_callSi1 K zz_nwC [.long r16] (zcJ13_bitCount_95d88 l D ad cy r16 σ _  h) gX7_aboutSolid_J13_bitCount_95d88 rfl ⟨rfl, rfl⟩ zdsC_yJ13_bitCount_95d88_s ⟨Nat.le_of_ble_eq_true rfl, Nat.le_of_ble_eq_true rfl⟩ rfl rfl (Nat.le_of_ble_eq_true rfl) dX7_aboutSolid_81 (fun r17 h => ?_)
    exact hret _ rfl h _ _ dX7_aboutSolid_84
  have h := (And.right h) c30
  by_cases c31 : v1 = (4 : Int32)
  · have h := (And.left h) c31
    refine zz_tin K (4) 85 dX7_aboutSolid_1 (by rw [c31]; decide) (by decide) (by decide) rfl rfl ?_
    refine zz_aload_n K 0 dX7_aboutSolid_85 rfl rfl ?_
    refine zg7_0_0 K zin_X7_aboutSolid_X7 zlk_X7_aboutSolid_1 dX7_aboutSolid_86 ?_
    refine zg6_6_0 K zin_X7_aboutSolid_X6 zlk_X7_aboutSolid_2 dX7_aboutSolid_89 ?_
    refine zz_callSi1 K zz_nwC [.int ((σ).1 6)] (zc7_isBlock l D ad cy ((σ).1 6) σ _  h) gX7_aboutSolid_X7_isBlock rfl ⟨rfl, rfl⟩ zdsC_yX7_isBlock_s ⟨Nat.le_of_ble_eq_true rfl, Nat.le_of_ble_eq_true rfl⟩ rfl rfl (Nat.le_of_ble_eq_true rfl) dX7_aboutSolid_92 (fun r18 h => ?_)
    refine zz_if_eq K 119 dX7_aboutSolid_95 rfl (fun c19 => ?_) (fun c19 => ?_)
    · have h := (And.left h) c19
      refine zz_iconst K dX7_aboutSolid_119 zcCi_0 ?_
      exact hret _ rfl h _ _ dX7_aboutSolid_120
    · have h := (And.right h) c19
      refine zz_aload_n K 0 dX7_aboutSolid_98 rfl rfl ?_
      refine zg7_0_0 K zin_X7_aboutSolid_X7 zlk_X7_aboutSolid_1 dX7_aboutSolid_99 ?_
      refine zz_aload_n K 0 dX7_aboutSolid_102 rfl rfl ?_
      refine zg7_0_0 K zin_X7_aboutSolid_X7 zlk_X7_aboutSolid_1 dX7_aboutSolid_103 ?_
      refine zg6_7_0 K zin_X7_aboutSolid_X6 zlk_X7_aboutSolid_3 dX7_aboutSolid_106 ?_
      refine zz_callVi1 K zz_nwC [.int ((σ).1 8)] (zc6_stands l D ad cy ((σ).1 8) σ _  h) gX7_aboutSolid_X6_stands rfl ⟨rfl, rfl⟩ zdsC_yX6_stands_v ⟨Nat.le_of_ble_eq_true rfl, Nat.le_of_ble_eq_true rfl⟩ (wC_at_1 ad cy σ) rfl rfl rfl rfl (Nat.le_of_ble_eq_true rfl) dX7_aboutSolid_109 (fun r20 h => ?_)
      refine zz_if_eq K 119 dX7_aboutSolid_112 rfl (fun c21 => ?_) (fun c21 => ?_)
      · have h := (And.left h) c21
        refine zz_iconst K dX7_aboutSolid_119 zcCi_0 ?_
        exact hret _ rfl h _ _ dX7_aboutSolid_120
      · have h := (And.right h) c21
        refine zz_iconst K dX7_aboutSolid_115 zcCi_1 ?_
        refine zz_goto K 120 dX7_aboutSolid_116 rfl ?_
        exact hret _ rfl h _ _ dX7_aboutSolid_120
  have h := (And.right h) c31
  refine zz_tout K 121 dX7_aboutSolid_1 (zz_tsw v1 (0) (4) (fun z h1 h2 => by
    have hz : z = 0 ∨ z = 1 ∨ z = 2 ∨ z = 3 ∨ z = 4 := by omega
    rcases hz with rfl | rfl | rfl | rfl | rfl <;> intro q
    · exact c27 (Int32.toInt_inj.mp (q.trans (by decide)))
    · exact c28 (Int32.toInt_inj.mp (q.trans (by decide)))
    · exact c29 (Int32.toInt_inj.mp (q.trans (by decide)))
    · exact c30 (Int32.toInt_inj.mp (q.trans (by decide)))
    · exact c31 (Int32.toInt_inj.mp (q.trans (by decide))))) rfl ?_
  refine zz_aload_n K 0 dX7_aboutSolid_121 rfl rfl ?_
  refine zg7_0_0 K zin_X7_aboutSolid_X7 zlk_X7_aboutSolid_1 dX7_aboutSolid_122 ?_
  refine zg6_6_0 K zin_X7_aboutSolid_X6 zlk_X7_aboutSolid_2 dX7_aboutSolid_125 ?_
  refine zz_callSi1 K zz_nwC [.int ((σ).1 6)] (zc7_isTetra l D ad cy ((σ).1 6) σ _  h) gX7_aboutSolid_X7_isTetra rfl ⟨rfl, rfl⟩ zdsC_yX7_isTetra_s ⟨Nat.le_of_ble_eq_true rfl, Nat.le_of_ble_eq_true rfl⟩ rfl rfl (Nat.le_of_ble_eq_true rfl) dX7_aboutSolid_128 (fun r22 h => ?_)
  refine zz_if_eq K 155 dX7_aboutSolid_131 rfl (fun c23 => ?_) (fun c23 => ?_)
  · have h := (And.left h) c23
    refine zz_iconst K dX7_aboutSolid_155 zcCi_0 ?_
    exact hret _ rfl h _ _ dX7_aboutSolid_156
  · have h := (And.right h) c23
    refine zz_aload_n K 0 dX7_aboutSolid_134 rfl rfl ?_
    refine zg7_0_0 K zin_X7_aboutSolid_X7 zlk_X7_aboutSolid_1 dX7_aboutSolid_135 ?_
    refine zz_aload_n K 0 dX7_aboutSolid_138 rfl rfl ?_
    refine zg7_0_0 K zin_X7_aboutSolid_X7 zlk_X7_aboutSolid_1 dX7_aboutSolid_139 ?_
    refine zz_callVi1 K zz_nwC [] (zc6_placeNow l D ad cy  σ _  h) gX7_aboutSolid_X6_placeNow rfl ⟨rfl, rfl⟩ zdsC_yX6_placeNow_v ⟨Nat.le_of_ble_eq_true rfl, Nat.le_of_ble_eq_true rfl⟩ (wC_at_1 ad cy σ) rfl rfl rfl rfl (Nat.le_of_ble_eq_true rfl) dX7_aboutSolid_142 (fun r24 h => ?_)
    refine zz_callVi1 K zz_nwC [.int r24] (zc6_pointsUp l D ad cy r24 σ _  h) gX7_aboutSolid_X6_pointsUp rfl ⟨rfl, rfl⟩ zdsC_yX6_pointsUp_v ⟨Nat.le_of_ble_eq_true rfl, Nat.le_of_ble_eq_true rfl⟩ (wC_at_1 ad cy σ) rfl rfl rfl rfl (Nat.le_of_ble_eq_true rfl) dX7_aboutSolid_145 (fun r25 h => ?_)
    refine zz_if_eq K 155 dX7_aboutSolid_148 rfl (fun c26 => ?_) (fun c26 => ?_)
    · have h := (And.left h) c26
      refine zz_iconst K dX7_aboutSolid_155 zcCi_0 ?_
      exact hret _ rfl h _ _ dX7_aboutSolid_156
    · have h := (And.right h) c26
      refine zz_iconst K dX7_aboutSolid_151 zcCi_1 ?_
      refine zz_goto K 156 dX7_aboutSolid_152 rfl ?_
      exact hret _ rfl h _ _ dX7_aboutSolid_156
set_option maxRecDepth 100000 in
theorem zc7_aboutSolid (l : Launch) (D : va_G) (ad : Nat → Nat) (cy : Nat → ClassId) (v1 : Int32) (σ : zz_St) (Qp : Int32 → Prop) (h : zq7_aboutSolid v1 σ Qp) : zz_Mi l yX7_aboutSolid wsX7_aboutSolid zrm7_aboutSolid D (tysC cy) (wC ad cy) nwC [.ref (ad 0), .int v1] σ (fun r σ2 => σ2 = σ ∧ Qp r) :=
  zz_Mi.of zz_nwC (wC_ad ad cy) (by decide +kernel) rfl ⟨rfl, rfl⟩ (Nat.le_of_ble_eq_true rfl) (fun p e s m args below meth c A QW K hret => zu7_aboutSolid_0 K  (fun r hn hq pc lv hd => hret r σ hn ⟨rfl, hq⟩ pc lv hd) h)
theorem zcCb_10 : (Int8.ofInt (10)).toInt32 = (10 : Int32) := by decide
theorem zin_X7_solid_X7 : ∀ w ∈ wsX70, w ∈ wsX7_solid := fun w h => List.mem_cons_of_mem _ (List.mem_append_left _ (List.mem_append_left _ (List.mem_append_right _ h)))
theorem zlk_X7_solid_1 : Cond.fieldLink RX7 26 "SolidsRolled" "world" "LSolidsRolled$World;" ∈ wsX7_solid := List.mem_of_getElem? (i := 1) rfl
theorem zin_X7_solid_X5 : ∀ w ∈ wsX50, w ∈ wsX7_solid := fun w h => List.mem_cons_of_mem _ (List.mem_append_left _ (List.mem_append_right _ h))
theorem zlk_X7_solid_2 : Cond.fieldLink RX7 151 "SolidsRolled$Stances" "sides" "I" ∈ wsX7_solid := List.mem_of_getElem? (i := 2) rfl
theorem zdsC_yX7_aboutSolid_v : yX7_aboutSolid.cls = RX7 ∧ yX7_aboutSolid.cls ≠ "java/lang/invoke/MethodHandle" ∧ yX7_aboutSolid.cls ≠ "java/lang/invoke/VarHandle" ∧ (parseMethodDescriptor yX7_aboutSolid.desc).map (fun d => d.parameters.length) = some 1 := by decide +kernel
theorem zdsC_yX6_positionOf_v : yX6_positionOf.cls = RX6 ∧ yX6_positionOf.cls ≠ "java/lang/invoke/MethodHandle" ∧ yX6_positionOf.cls ≠ "java/lang/invoke/VarHandle" ∧ (parseMethodDescriptor yX6_positionOf.desc).map (fun d => d.parameters.length) = some 1 := by decide +kernel
abbrev zrm7_solid : Room := { frames := 4, cells := 0, slots := 0, locals := 86 }
set_option maxHeartbeats 4000000 in
set_option maxRecDepth 100000 in
theorem zu7_solid_59 {p : Program} {l : Launch} {e : Env} {s : State} {m : MethodId} {args : Array Value} {below : List Frame} {meth : Method} {c : Code} {Q : State → Prop} {D : va_G} {A : Nat → Prop} {ad : Nat → Nat} {cy : Nat → ClassId} {v1 : Int32} {v3 : Int32} {σ : zz_St} (K : zz_K p s m args c cX7_solid 4 RX7 wsX7_solid D (tysC cy) A (wC ad cy) nwC) {Qp : Int32 → zz_St → Prop} (hret : ∀ (r : Int32) (σ2 : zz_St), narrow .int (.int r) = .int r → Qp r σ2 → ∀ (pc : Nat) (lv : List (Nat × Value)), decode cX7_solid pc = .ok (.ireturn, 1) → zz_G p l e zrm7_solid s m args below meth c Q D A (wC ad cy) 4 pc lv [.int r] σ2) (h : zq7_solid_59 v1 v3 σ Qp) : zz_G p l e zrm7_solid s m args below meth c Q D A (wC ad cy) 4 59 [(0, .ref (ad 0)), (1, .int v1), (3, .int v3)] [] σ := by
  unfold zq7_solid_59 at h
  refine zz_aload_n K 0 dX7_solid_59 rfl rfl ?_
  refine zg7_0_0 K zin_X7_solid_X7 zlk_X7_solid_1 dX7_solid_60 ?_
  refine zz_callVi1 K zz_nwC [] (zc6_isNone l D ad cy  σ _  h) gX7_solid_X6_isNone rfl ⟨rfl, rfl⟩ zdsC_yX6_isNone_v ⟨Nat.le_of_ble_eq_true rfl, Nat.le_of_ble_eq_true rfl⟩ (wC_at_1 ad cy σ) rfl rfl rfl rfl (Nat.le_of_ble_eq_true rfl) dX7_solid_63 (fun r17 h => ?_)
  refine zz_if_eq K 76 dX7_solid_66 rfl (fun c18 => ?_) (fun c18 => ?_)
  · have h := (And.left h) c18
    refine zz_iload_n K 2 dX7_solid_76 rfl rfl ?_
    refine zz_if_eq K 94 dX7_solid_77 rfl (fun c19 => ?_) (fun c19 => ?_)
    · have h := (And.left h) c19
      refine zz_aload_n K 0 dX7_solid_94 rfl rfl ?_
      refine zz_iload_n K 1 dX7_solid_95 rfl rfl ?_
      refine zz_callVi1 K zz_nwC [.int v1] (zc7_aboutSolid l D ad cy v1 σ _  h) gX7_solid_X7_aboutSolid rfl ⟨rfl, rfl⟩ zdsC_yX7_aboutSolid_v ⟨Nat.le_of_ble_eq_true rfl, Nat.le_of_ble_eq_true rfl⟩ (wC_at_0 ad cy σ) rfl rfl rfl rfl (Nat.le_of_ble_eq_true rfl) dX7_solid_96 (fun r20 h => ?_)
      exact hret _ _ rfl h _ _ dX7_solid_99
    · have h := (And.right h) c19
      refine zz_aload_n K 0 dX7_solid_80 rfl rfl ?_
      refine zg7_0_0 K zin_X7_solid_X7 zlk_X7_solid_1 dX7_solid_81 ?_
      refine zz_iload_n K 1 dX7_solid_84 rfl rfl ?_
      refine zz_bipush K dX7_solid_85 zcCb_10 ?_
      refine zz_isub K dX7_solid_87 ?_
      refine zz_callVi1 K zz_nwC [.int (v1 - (10 : Int32))] (zc6_positionOf l D ad cy (v1 - (10 : Int32)) σ _  h) gX7_solid_X6_positionOf rfl ⟨rfl, rfl⟩ zdsC_yX6_positionOf_v ⟨Nat.le_of_ble_eq_true rfl, Nat.le_of_ble_eq_true rfl⟩ (wC_at_1 ad cy σ) rfl rfl rfl rfl (Nat.le_of_ble_eq_true rfl) dX7_solid_88 (fun r21 h => ?_)
      refine zz_goto K 99 dX7_solid_91 rfl ?_
      exact hret _ _ rfl h _ _ dX7_solid_99
  · have h := (And.right h) c18
    refine zz_aload_n K 0 dX7_solid_69 rfl rfl ?_
    refine zz_bipush K dX7_solid_70 zcCb_m3 ?_
    refine zz_callVi K zz_nwC [.int (-3 : Int32)] (zc7_refuse l D ad cy (-3 : Int32) σ _  h) gX7_solid_X7_refuse rfl ⟨rfl, rfl⟩ zdsC_yX7_refuse_v ⟨Nat.le_of_ble_eq_true rfl, Nat.le_of_ble_eq_true rfl⟩ (wC_at_0 ad cy σ) rfl rfl rfl rfl (Nat.le_of_ble_eq_true rfl) dX7_solid_72 (fun r22 g23 h => ?_)
    exact hret _ _ rfl h _ _ dX7_solid_75
set_option maxHeartbeats 4000000 in
set_option maxRecDepth 100000 in
theorem zu7_solid_43 {p : Program} {l : Launch} {e : Env} {s : State} {m : MethodId} {args : Array Value} {below : List Frame} {meth : Method} {c : Code} {Q : State → Prop} {D : va_G} {A : Nat → Prop} {ad : Nat → Nat} {cy : Nat → ClassId} {v1 : Int32} {v2 : Int32} {s0 : Int32} {σ : zz_St} (K : zz_K p s m args c cX7_solid 4 RX7 wsX7_solid D (tysC cy) A (wC ad cy) nwC) {Qp : Int32 → zz_St → Prop} (hret : ∀ (r : Int32) (σ2 : zz_St), narrow .int (.int r) = .int r → Qp r σ2 → ∀ (pc : Nat) (lv : List (Nat × Value)), decode cX7_solid pc = .ok (.ireturn, 1) → zz_G p l e zrm7_solid s m args below meth c Q D A (wC ad cy) 4 pc lv [.int r] σ2) (h : zq7_solid_43 v1 v2 s0 σ Qp) : zz_G p l e zrm7_solid s m args below meth c Q D A (wC ad cy) 4 43 [(0, .ref (ad 0)), (1, .int v1), (2, .int v2)] [.int s0] σ := by
  unfold zq7_solid_43 at h
  refine zz_istore_n K [(3, .int s0), (0, .ref (ad 0)), (1, .int v1), (2, .int v2)] dX7_solid_43 rfl (by decide) rfl ?_
  refine zz_iload_n K 3 dX7_solid_44 rfl rfl ?_
  refine zz_if_ne K 59 dX7_solid_45 rfl (fun c24 => ?_) (fun c24 => ?_)
  · have h := (And.left h) c24
    refine zz_sub [1, 2, 0] [(0, .ref (ad 0)), (1, .int v1), (3, .int s0)] rfl ?_
    exact zu7_solid_59 K hret h
  · have h := (And.right h) c24
    refine zz_iload_n K 0 dX7_solid_48 rfl rfl ?_
    refine zz_if_ne K 59 dX7_solid_49 rfl (fun c25 => ?_) (fun c25 => ?_)
    · have h := (And.left h) c25
      refine zz_sub [1, 2, 0] [(0, .ref (ad 0)), (1, .int v1), (3, .int s0)] rfl ?_
      exact zu7_solid_59 K hret h
    · have h := (And.right h) c25
      refine zz_aload_n K 1 dX7_solid_52 rfl rfl ?_
      refine zz_bipush K dX7_solid_53 zcCb_m2 ?_
      refine zz_callVi K zz_nwC [.int (-2 : Int32)] (zc7_refuse l D ad cy (-2 : Int32) σ _  h) gX7_solid_X7_refuse rfl ⟨rfl, rfl⟩ zdsC_yX7_refuse_v ⟨Nat.le_of_ble_eq_true rfl, Nat.le_of_ble_eq_true rfl⟩ (wC_at_0 ad cy σ) rfl rfl rfl rfl (Nat.le_of_ble_eq_true rfl) dX7_solid_55 (fun r26 g27 h => ?_)
      exact hret _ _ rfl h _ _ dX7_solid_58
set_option maxHeartbeats 4000000 in
set_option maxRecDepth 100000 in
theorem zu7_solid_42 {p : Program} {l : Launch} {e : Env} {s : State} {m : MethodId} {args : Array Value} {below : List Frame} {meth : Method} {c : Code} {Q : State → Prop} {D : va_G} {A : Nat → Prop} {ad : Nat → Nat} {cy : Nat → ClassId} {v1 : Int32} {v2 : Int32} {σ : zz_St} (K : zz_K p s m args c cX7_solid 4 RX7 wsX7_solid D (tysC cy) A (wC ad cy) nwC) {Qp : Int32 → zz_St → Prop} (hret : ∀ (r : Int32) (σ2 : zz_St), narrow .int (.int r) = .int r → Qp r σ2 → ∀ (pc : Nat) (lv : List (Nat × Value)), decode cX7_solid pc = .ok (.ireturn, 1) → zz_G p l e zrm7_solid s m args below meth c Q D A (wC ad cy) 4 pc lv [.int r] σ2) (h : zq7_solid_42 v1 v2 σ Qp) : zz_G p l e zrm7_solid s m args below meth c Q D A (wC ad cy) 4 42 [(0, .ref (ad 0)), (1, .int v1), (2, .int v2)] [] σ := by
  unfold zq7_solid_42 at h
  refine zz_iconst K dX7_solid_42 zcCi_0 ?_
  exact zu7_solid_43 K hret h
set_option maxHeartbeats 4000000 in
set_option maxRecDepth 100000 in
theorem zu7_solid_14 {p : Program} {l : Launch} {e : Env} {s : State} {m : MethodId} {args : Array Value} {below : List Frame} {meth : Method} {c : Code} {Q : State → Prop} {D : va_G} {A : Nat → Prop} {ad : Nat → Nat} {cy : Nat → ClassId} {v1 : Int32} {s0 : Int32} {σ : zz_St} (K : zz_K p s m args c cX7_solid 4 RX7 wsX7_solid D (tysC cy) A (wC ad cy) nwC) {Qp : Int32 → zz_St → Prop} (hret : ∀ (r : Int32) (σ2 : zz_St), narrow .int (.int r) = .int r → Qp r σ2 → ∀ (pc : Nat) (lv : List (Nat × Value)), decode cX7_solid pc = .ok (.ireturn, 1) → zz_G p l e zrm7_solid s m args below meth c Q D A (wC ad cy) 4 pc lv [.int r] σ2) (h : zq7_solid_14 v1 s0 σ Qp) : zz_G p l e zrm7_solid s m args below meth c Q D A (wC ad cy) 4 14 [(0, .ref (ad 0)), (1, .int v1)] [.int s0] σ := by
  unfold zq7_solid_14 at h
  refine zz_istore_n K [(2, .int s0), (0, .ref (ad 0)), (1, .int v1)] dX7_solid_14 rfl (by decide) rfl ?_
  refine zz_iload_n K 2 dX7_solid_15 rfl rfl ?_
  refine zz_bipush K dX7_solid_16 zcCb_10 ?_
  refine zz_icmp_lt K 42 dX7_solid_18 rfl (fun c28 => ?_) (fun c28 => ?_)
  · have h := (And.left h) c28
    refine zz_sub [1, 2, 0] [(0, .ref (ad 0)), (1, .int v1), (2, .int s0)] rfl ?_
    exact zu7_solid_42 K hret h
  · have h := (And.right h) c28
    refine zz_iload_n K 2 dX7_solid_21 rfl rfl ?_
    refine zz_bipush K dX7_solid_22 zcCb_10 ?_
    refine zz_aload_n K 1 dX7_solid_24 rfl rfl ?_
    refine zg7_0_0 K zin_X7_solid_X7 zlk_X7_solid_1 dX7_solid_25 ?_
    refine zz_callVr1 K zz_nwC [] (zc6_stances l D ad cy  σ _  h) gX7_solid_X6_stances rfl ⟨rfl, rfl⟩ zdsC_yX6_stances_v ⟨Nat.le_of_ble_eq_true rfl, Nat.le_of_ble_eq_true rfl⟩ (wC_at_1 ad cy σ) rfl rfl rfl rfl (Nat.le_of_ble_eq_true rfl) dX7_solid_28 (fun r29 h => ?_)
    obtain ⟨hrr29, h⟩ := h
    refine zg5_0_ K hrr29 zin_X7_solid_X5 zlk_X7_solid_2 dX7_solid_31 ?_
    refine zz_iadd K dX7_solid_34 ?_
    refine zz_icmp_ge K 42 dX7_solid_35 rfl (fun c30 => ?_) (fun c30 => ?_)
    · have h := (And.left h) c30
      refine zz_sub [1, 2, 0] [(0, .ref (ad 0)), (1, .int v1), (2, .int s0)] rfl ?_
      exact zu7_solid_42 K hret h
    · have h := (And.right h) c30
      refine zz_iconst K dX7_solid_38 zcCi_1 ?_
      refine zz_goto K 43 dX7_solid_39 rfl ?_
      refine zz_sub [1, 2, 0] [(0, .ref (ad 0)), (1, .int v1), (2, .int s0)] rfl ?_
      exact zu7_solid_43 K hret h
set_option maxHeartbeats 4000000 in
set_option maxRecDepth 100000 in
theorem zu7_solid_13 {p : Program} {l : Launch} {e : Env} {s : State} {m : MethodId} {args : Array Value} {below : List Frame} {meth : Method} {c : Code} {Q : State → Prop} {D : va_G} {A : Nat → Prop} {ad : Nat → Nat} {cy : Nat → ClassId} {v1 : Int32} {σ : zz_St} (K : zz_K p s m args c cX7_solid 4 RX7 wsX7_solid D (tysC cy) A (wC ad cy) nwC) {Qp : Int32 → zz_St → Prop} (hret : ∀ (r : Int32) (σ2 : zz_St), narrow .int (.int r) = .int r → Qp r σ2 → ∀ (pc : Nat) (lv : List (Nat × Value)), decode cX7_solid pc = .ok (.ireturn, 1) → zz_G p l e zrm7_solid s m args below meth c Q D A (wC ad cy) 4 pc lv [.int r] σ2) (h : zq7_solid_13 v1 σ Qp) : zz_G p l e zrm7_solid s m args below meth c Q D A (wC ad cy) 4 13 [(0, .ref (ad 0)), (1, .int v1)] [] σ := by
  unfold zq7_solid_13 at h
  refine zz_iconst K dX7_solid_13 zcCi_0 ?_
  exact zu7_solid_14 K hret h
set_option maxHeartbeats 4000000 in
set_option maxRecDepth 100000 in
theorem zu7_solid_0 {p : Program} {l : Launch} {e : Env} {s : State} {m : MethodId} {args : Array Value} {below : List Frame} {meth : Method} {c : Code} {Q : State → Prop} {D : va_G} {A : Nat → Prop} {ad : Nat → Nat} {cy : Nat → ClassId} {v1 : Int32} {σ : zz_St} (K : zz_K p s m args c cX7_solid 4 RX7 wsX7_solid D (tysC cy) A (wC ad cy) nwC) {Qp : Int32 → zz_St → Prop} (hret : ∀ (r : Int32) (σ2 : zz_St), narrow .int (.int r) = .int r → Qp r σ2 → ∀ (pc : Nat) (lv : List (Nat × Value)), decode cX7_solid pc = .ok (.ireturn, 1) → zz_G p l e zrm7_solid s m args below meth c Q D A (wC ad cy) 4 pc lv [.int r] σ2) (h : zq7_solid v1 σ Qp) : zz_G p l e zrm7_solid s m args below meth c Q D A (wC ad cy) 4 0 [(0, .ref (ad 0)), (1, .int v1)] [] σ := by
  unfold zq7_solid at h
  refine zz_iload_n K 1 dX7_solid_0 rfl rfl ?_
  refine zz_if_lt K 13 dX7_solid_1 rfl (fun c31 => ?_) (fun c31 => ?_)
  · have h := (And.left h) c31
    exact zu7_solid_13 K hret h
  · have h := (And.right h) c31
    refine zz_iload_n K 1 dX7_solid_4 rfl rfl ?_
    refine zz_iconst K dX7_solid_5 zcCi_5 ?_
    refine zz_icmp_gt K 13 dX7_solid_6 rfl (fun c32 => ?_) (fun c32 => ?_)
    · have h := (And.left h) c32
      exact zu7_solid_13 K hret h
    · have h := (And.right h) c32
      refine zz_iconst K dX7_solid_9 zcCi_1 ?_
      refine zz_goto K 14 dX7_solid_10 rfl ?_
      exact zu7_solid_14 K hret h
set_option maxRecDepth 100000 in
theorem zc7_solid (l : Launch) (D : va_G) (ad : Nat → Nat) (cy : Nat → ClassId) (v1 : Int32) (σ : zz_St) (Qp : Int32 → zz_St → Prop) (h : zq7_solid v1 σ Qp) : zz_Mi l yX7_solid wsX7_solid zrm7_solid D (tysC cy) (wC ad cy) nwC [.ref (ad 0), .int v1] σ Qp :=
  zz_Mi.of zz_nwC (wC_ad ad cy) (by decide +kernel) rfl ⟨rfl, rfl⟩ (Nat.le_of_ble_eq_true rfl) (fun p e s m args below meth c A QW K hret => zu7_solid_0 K  hret h)
theorem zin_X7_rollTruly_X7 : ∀ w ∈ wsX70, w ∈ wsX7_rollTruly := fun w h => List.mem_cons_of_mem _ (List.mem_append_left _ (List.mem_append_left _ (List.mem_append_left _ (List.mem_append_right _ h))))
theorem zlk_X7_rollTruly_1 : Cond.fieldLink RX7 26 "SolidsRolled" "world" "LSolidsRolled$World;" ∈ wsX7_rollTruly := List.mem_of_getElem? (i := 1) rfl
theorem zin_X7_rollTruly_X6 : ∀ w ∈ wsX60, w ∈ wsX7_rollTruly := fun w h => List.mem_cons_of_mem _ (List.mem_append_left _ (List.mem_append_left _ (List.mem_append_right _ h)))
theorem zlk_X7_rollTruly_2 : Cond.fieldLink RX7 169 "SolidsRolled$World" "state" "I" ∈ wsX7_rollTruly := List.mem_of_getElem? (i := 2) rfl
theorem zlk_X7_rollTruly_3 : Cond.fieldLink RX7 54 "SolidsRolled" "history" "LSolidsRolled$History;" ∈ wsX7_rollTruly := List.mem_of_getElem? (i := 3) rfl
theorem zlk_X7_rollTruly_4 : Cond.fieldLink RX7 138 "SolidsRolled$World" "ink" "I" ∈ wsX7_rollTruly := List.mem_of_getElem? (i := 4) rfl
theorem zdsC_yX6_printBelow_v : yX6_printBelow.cls = RX6 ∧ yX6_printBelow.cls ≠ "java/lang/invoke/MethodHandle" ∧ yX6_printBelow.cls ≠ "java/lang/invoke/VarHandle" ∧ (parseMethodDescriptor yX6_printBelow.desc).map (fun d => d.parameters.length) = some 0 := by decide +kernel
theorem zdsC_yX0_keep_v : yX0_keep.cls = RX0 ∧ yX0_keep.cls ≠ "java/lang/invoke/MethodHandle" ∧ yX0_keep.cls ≠ "java/lang/invoke/VarHandle" ∧ (parseMethodDescriptor yX0_keep.desc).map (fun d => d.parameters.length) = some 1 := by decide +kernel
abbrev zrm7_rollTruly : Room := { frames := 4, cells := 0, slots := 0, locals := 88 }
set_option maxHeartbeats 4000000 in
set_option maxRecDepth 100000 in
theorem zu7_rollTruly_0 {p : Program} {l : Launch} {e : Env} {s : State} {m : MethodId} {args : Array Value} {below : List Frame} {meth : Method} {c : Code} {Q : State → Prop} {D : va_G} {A : Nat → Prop} {ad : Nat → Nat} {cy : Nat → ClassId} {v1 : Int32} {σ : zz_St} (K : zz_K p s m args c cX7_rollTruly 3 RX7 wsX7_rollTruly D (tysC cy) A (wC ad cy) nwC) {Qp : Int32 → zz_St → Prop} (hret : ∀ (r : Int32) (σ2 : zz_St), narrow .boolean (.int r) = .int r → Qp r σ2 → ∀ (pc : Nat) (lv : List (Nat × Value)), decode cX7_rollTruly pc = .ok (.ireturn, 1) → zz_G p l e zrm7_rollTruly s m args below meth c Q D A (wC ad cy) 3 pc lv [.int r] σ2) (h : zq7_rollTruly v1 σ Qp) : zz_G p l e zrm7_rollTruly s m args below meth c Q D A (wC ad cy) 3 0 [(0, .ref (ad 0)), (1, .int v1)] [] σ := by
  unfold zq7_rollTruly at h
  refine zz_aload_n K 0 dX7_rollTruly_0 rfl rfl ?_
  refine zg7_0_0 K zin_X7_rollTruly_X7 zlk_X7_rollTruly_1 dX7_rollTruly_1 ?_
  refine zz_aload_n K 0 dX7_rollTruly_4 rfl rfl ?_
  refine zg7_0_0 K zin_X7_rollTruly_X7 zlk_X7_rollTruly_1 dX7_rollTruly_5 ?_
  refine zg6_7_0 K zin_X7_rollTruly_X6 zlk_X7_rollTruly_2 dX7_rollTruly_8 ?_
  refine zz_iload_n K 1 dX7_rollTruly_11 rfl rfl ?_
  refine zz_callVi1 K zz_nwC [.int ((σ).1 8), .int v1] (zc6_rolled l D ad cy ((σ).1 8) v1 σ _  h) gX7_rollTruly_X6_rolled rfl ⟨rfl, rfl⟩ zdsC_yX6_rolled_v ⟨Nat.le_of_ble_eq_true rfl, Nat.le_of_ble_eq_true rfl⟩ (wC_at_1 ad cy σ) rfl rfl rfl rfl (Nat.le_of_ble_eq_true rfl) dX7_rollTruly_12 (fun r7 h => ?_)
  refine zz_istore_n K [(2, .int r7), (0, .ref (ad 0)), (1, .int v1)] dX7_rollTruly_15 rfl (by decide) rfl ?_
  refine zz_iload_n K 0 dX7_rollTruly_16 rfl rfl ?_
  refine zz_if_ge K 22 dX7_rollTruly_17 rfl (fun c8 => ?_) (fun c8 => ?_)
  · have h := (And.left h) c8
    refine zz_aload_n K 1 dX7_rollTruly_22 rfl rfl ?_
    refine zg7_5_0 K zin_X7_rollTruly_X7 zlk_X7_rollTruly_3 dX7_rollTruly_23 ?_
    refine zz_aload_n K 1 dX7_rollTruly_26 rfl rfl ?_
    refine zg7_0_0 K zin_X7_rollTruly_X7 zlk_X7_rollTruly_1 dX7_rollTruly_27 ?_
    refine zz_callVv K zz_nwC [.ref (ad 1)] (zc0_keep l D ad cy  σ _  h) gX7_rollTruly_X0_keep rfl ⟨rfl, rfl⟩ zdsC_yX0_keep_v ⟨Nat.le_of_ble_eq_true rfl, Nat.le_of_ble_eq_true rfl⟩ (wC_at_5 ad cy σ) rfl rfl rfl rfl (Nat.le_of_ble_eq_true rfl) dX7_rollTruly_30 (fun g9 h => ?_)
    refine zz_aload_n K 1 dX7_rollTruly_33 rfl rfl ?_
    refine zg7_0_0 K zin_X7_rollTruly_X7 zlk_X7_rollTruly_1 dX7_rollTruly_34 ?_
    refine zz_iload_n K 0 dX7_rollTruly_37 rfl rfl ?_
    refine zp6_7_0 K zin_X7_rollTruly_X6 zlk_X7_rollTruly_2 dX7_rollTruly_38 ?_
    refine zz_nms (fun g10 eg10 => ?_)
    have h := h g10 eg10
    refine zz_aload_n K 1 dX7_rollTruly_41 rfl rfl ?_
    refine zg7_0_0 K zin_X7_rollTruly_X7 zlk_X7_rollTruly_1 dX7_rollTruly_42 ?_
    refine zg6_8_0 K zin_X7_rollTruly_X6 zlk_X7_rollTruly_4 dX7_rollTruly_45 ?_
    refine zz_iconst K dX7_rollTruly_48 zcCi_1 ?_
    refine zz_icmp_ne K 59 dX7_rollTruly_49 rfl (fun c11 => ?_) (fun c11 => ?_)
    · have h := (And.left h) c11
      refine zz_iconst K dX7_rollTruly_59 zcCi_1 ?_
      exact hret _ _ rfl h _ _ dX7_rollTruly_60
    · have h := (And.right h) c11
      refine zz_aload_n K 1 dX7_rollTruly_52 rfl rfl ?_
      refine zg7_0_0 K zin_X7_rollTruly_X7 zlk_X7_rollTruly_1 dX7_rollTruly_53 ?_
      refine zz_callVv K zz_nwC [] (zc6_printBelow l D ad cy  g10 _  h) gX7_rollTruly_X6_printBelow rfl ⟨rfl, rfl⟩ zdsC_yX6_printBelow_v ⟨Nat.le_of_ble_eq_true rfl, Nat.le_of_ble_eq_true rfl⟩ (wC_at_1 ad cy g10) rfl rfl rfl rfl (Nat.le_of_ble_eq_true rfl) dX7_rollTruly_56 (fun g12 h => ?_)
      refine zz_iconst K dX7_rollTruly_59 zcCi_1 ?_
      exact hret _ _ rfl h _ _ dX7_rollTruly_60
  · have h := (And.right h) c8
    refine zz_iconst K dX7_rollTruly_20 zcCi_0 ?_
    exact hret _ _ rfl h _ _ dX7_rollTruly_21
set_option maxRecDepth 100000 in
theorem zc7_rollTruly (l : Launch) (D : va_G) (ad : Nat → Nat) (cy : Nat → ClassId) (v1 : Int32) (σ : zz_St) (Qp : Int32 → zz_St → Prop) (h : zq7_rollTruly v1 σ Qp) : zz_Mi l yX7_rollTruly wsX7_rollTruly zrm7_rollTruly D (tysC cy) (wC ad cy) nwC [.ref (ad 0), .int v1] σ Qp :=
  zz_Mi.of zz_nwC (wC_ad ad cy) (by decide +kernel) rfl ⟨rfl, rfl⟩ (Nat.le_of_ble_eq_true rfl) (fun p e s m args below meth c A QW K hret => zu7_rollTruly_0 K  hret h)
theorem zin_X7_roll_X7 : ∀ w ∈ wsX70, w ∈ wsX7_roll := fun w h => List.mem_cons_of_mem _ (List.mem_append_left _ (List.mem_append_left _ (List.mem_append_left _ (List.mem_append_right _ h))))
theorem zlk_X7_roll_1 : Cond.fieldLink RX7 26 "SolidsRolled" "world" "LSolidsRolled$World;" ∈ wsX7_roll := List.mem_of_getElem? (i := 1) rfl
theorem zin_X7_roll_X6 : ∀ w ∈ wsX60, w ∈ wsX7_roll := fun w h => List.mem_cons_of_mem _ (List.mem_append_left _ (List.mem_append_left _ (List.mem_append_right _ h)))
theorem zlk_X7_roll_2 : Cond.fieldLink RX7 169 "SolidsRolled$World" "state" "I" ∈ wsX7_roll := List.mem_of_getElem? (i := 2) rfl
theorem zdsC_yX7_rollTruly_v : yX7_rollTruly.cls = RX7 ∧ yX7_rollTruly.cls ≠ "java/lang/invoke/MethodHandle" ∧ yX7_rollTruly.cls ≠ "java/lang/invoke/VarHandle" ∧ (parseMethodDescriptor yX7_rollTruly.desc).map (fun d => d.parameters.length) = some 1 := by decide +kernel
abbrev zrm7_roll : Room := { frames := 5, cells := 0, slots := 0, locals := 110 }
set_option maxHeartbeats 4000000 in
set_option maxRecDepth 100000 in
theorem zu7_roll_9 {p : Program} {l : Launch} {e : Env} {s : State} {m : MethodId} {args : Array Value} {below : List Frame} {meth : Method} {c : Code} {Q : State → Prop} {D : va_G} {A : Nat → Prop} {ad : Nat → Nat} {cy : Nat → ClassId}  {σ : zz_St} (K : zz_K p s m args c cX7_roll 2 RX7 wsX7_roll D (tysC cy) A (wC ad cy) nwC) {Qp : Int32 → zz_St → Prop} (hret : ∀ (r : Int32) (σ2 : zz_St), narrow .int (.int r) = .int r → Qp r σ2 → ∀ (pc : Nat) (lv : List (Nat × Value)), decode cX7_roll pc = .ok (.ireturn, 1) → zz_G p l e zrm7_roll s m args below meth c Q D A (wC ad cy) 2 pc lv [.int r] σ2) (h : zq7_roll_9 σ Qp) : zz_G p l e zrm7_roll s m args below meth c Q D A (wC ad cy) 2 9 [(0, .ref (ad 0))] [] σ := by
  unfold zq7_roll_9 at h
  refine zz_aload_n K 0 dX7_roll_9 rfl rfl ?_
  refine zz_bipush K dX7_roll_10 zcCb_m2 ?_
  refine zz_callVi K zz_nwC [.int (-2 : Int32)] (zc7_refuse l D ad cy (-2 : Int32) σ _  h) gX7_roll_X7_refuse rfl ⟨rfl, rfl⟩ zdsC_yX7_refuse_v ⟨Nat.le_of_ble_eq_true rfl, Nat.le_of_ble_eq_true rfl⟩ (wC_at_0 ad cy σ) rfl rfl rfl rfl (Nat.le_of_ble_eq_true rfl) dX7_roll_12 (fun r13 g14 h => ?_)
  exact hret _ _ rfl h _ _ dX7_roll_15
set_option maxHeartbeats 4000000 in
set_option maxRecDepth 100000 in
theorem zu7_roll_34 {p : Program} {l : Launch} {e : Env} {s : State} {m : MethodId} {args : Array Value} {below : List Frame} {meth : Method} {c : Code} {Q : State → Prop} {D : va_G} {A : Nat → Prop} {ad : Nat → Nat} {cy : Nat → ClassId}  {σ : zz_St} (K : zz_K p s m args c cX7_roll 2 RX7 wsX7_roll D (tysC cy) A (wC ad cy) nwC) {Qp : Int32 → zz_St → Prop} (hret : ∀ (r : Int32) (σ2 : zz_St), narrow .int (.int r) = .int r → Qp r σ2 → ∀ (pc : Nat) (lv : List (Nat × Value)), decode cX7_roll pc = .ok (.ireturn, 1) → zz_G p l e zrm7_roll s m args below meth c Q D A (wC ad cy) 2 pc lv [.int r] σ2) (h : zq7_roll_34 σ Qp) : zz_G p l e zrm7_roll s m args below meth c Q D A (wC ad cy) 2 34 [(0, .ref (ad 0))] [] σ := by
  unfold zq7_roll_34 at h
  refine zz_aload_n K 0 dX7_roll_34 rfl rfl ?_
  refine zz_bipush K dX7_roll_35 zcCb_m3 ?_
  refine zz_callVi K zz_nwC [.int (-3 : Int32)] (zc7_refuse l D ad cy (-3 : Int32) σ _  h) gX7_roll_X7_refuse rfl ⟨rfl, rfl⟩ zdsC_yX7_refuse_v ⟨Nat.le_of_ble_eq_true rfl, Nat.le_of_ble_eq_true rfl⟩ (wC_at_0 ad cy σ) rfl rfl rfl rfl (Nat.le_of_ble_eq_true rfl) dX7_roll_37 (fun r15 g16 h => ?_)
  exact hret _ _ rfl h _ _ dX7_roll_40
set_option maxHeartbeats 4000000 in
set_option maxRecDepth 100000 in
theorem zu7_roll_0 {p : Program} {l : Launch} {e : Env} {s : State} {m : MethodId} {args : Array Value} {below : List Frame} {meth : Method} {c : Code} {Q : State → Prop} {D : va_G} {A : Nat → Prop} {ad : Nat → Nat} {cy : Nat → ClassId} {v1 : Int32} {σ : zz_St} (K : zz_K p s m args c cX7_roll 2 RX7 wsX7_roll D (tysC cy) A (wC ad cy) nwC) {Qp : Int32 → zz_St → Prop} (hret : ∀ (r : Int32) (σ2 : zz_St), narrow .int (.int r) = .int r → Qp r σ2 → ∀ (pc : Nat) (lv : List (Nat × Value)), decode cX7_roll pc = .ok (.ireturn, 1) → zz_G p l e zrm7_roll s m args below meth c Q D A (wC ad cy) 2 pc lv [.int r] σ2) (h : zq7_roll v1 σ Qp) : zz_G p l e zrm7_roll s m args below meth c Q D A (wC ad cy) 2 0 [(0, .ref (ad 0)), (1, .int v1)] [] σ := by
  unfold zq7_roll at h
  refine zz_iload_n K 1 dX7_roll_0 rfl rfl ?_
  refine zz_if_lt K 9 dX7_roll_1 rfl (fun c17 => ?_) (fun c17 => ?_)
  · have h := (And.left h) c17
    refine zz_sub [0] [(0, .ref (ad 0))] rfl ?_
    exact zu7_roll_9 K hret h
  · have h := (And.right h) c17
    refine zz_iload_n K 1 dX7_roll_4 rfl rfl ?_
    refine zz_iconst K dX7_roll_5 zcCi_4 ?_
    refine zz_icmp_lt K 16 dX7_roll_6 rfl (fun c18 => ?_) (fun c18 => ?_)
    · have h := (And.left h) c18
      refine zz_aload_n K 0 dX7_roll_16 rfl rfl ?_
      refine zg7_0_0 K zin_X7_roll_X7 zlk_X7_roll_1 dX7_roll_17 ?_
      refine zz_callVi1 K zz_nwC [] (zc6_isNone l D ad cy  σ _  h) gX7_roll_X6_isNone rfl ⟨rfl, rfl⟩ zdsC_yX6_isNone_v ⟨Nat.le_of_ble_eq_true rfl, Nat.le_of_ble_eq_true rfl⟩ (wC_at_1 ad cy σ) rfl rfl rfl rfl (Nat.le_of_ble_eq_true rfl) dX7_roll_20 (fun r19 h => ?_)
      refine zz_if_ne K 34 dX7_roll_23 rfl (fun c20 => ?_) (fun c20 => ?_)
      · have h := (And.left h) c20
        refine zz_sub [0] [(0, .ref (ad 0))] rfl ?_
        exact zu7_roll_34 K hret h
      · have h := (And.right h) c20
        refine zz_aload_n K 0 dX7_roll_26 rfl rfl ?_
        refine zz_iload_n K 1 dX7_roll_27 rfl rfl ?_
        refine zz_callVi K zz_nwC [.int v1] (zc7_rollTruly l D ad cy v1 σ _  h) gX7_roll_X7_rollTruly rfl ⟨rfl, rfl⟩ zdsC_yX7_rollTruly_v ⟨Nat.le_of_ble_eq_true rfl, Nat.le_of_ble_eq_true rfl⟩ (wC_at_0 ad cy σ) rfl rfl rfl rfl (Nat.le_of_ble_eq_true rfl) dX7_roll_28 (fun r21 g22 h => ?_)
        refine zz_if_ne K 41 dX7_roll_31 rfl (fun c23 => ?_) (fun c23 => ?_)
        · have h := (And.left h) c23
          refine zz_aload_n K 0 dX7_roll_41 rfl rfl ?_
          refine zg7_0_0 K zin_X7_roll_X7 zlk_X7_roll_1 dX7_roll_42 ?_
          refine zz_aload_n K 0 dX7_roll_45 rfl rfl ?_
          refine zg7_0_0 K zin_X7_roll_X7 zlk_X7_roll_1 dX7_roll_46 ?_
          refine zg6_7_0 K zin_X7_roll_X6 zlk_X7_roll_2 dX7_roll_49 ?_
          refine zz_callVi1 K zz_nwC [.int (g22.1 8)] (zc6_faceBelow l D ad cy (g22.1 8) g22 _  h) gX7_roll_X6_faceBelow rfl ⟨rfl, rfl⟩ zdsC_yX6_faceBelow_v ⟨Nat.le_of_ble_eq_true rfl, Nat.le_of_ble_eq_true rfl⟩ (wC_at_1 ad cy g22) rfl rfl rfl rfl (Nat.le_of_ble_eq_true rfl) dX7_roll_52 (fun r24 h => ?_)
          exact hret _ _ rfl h _ _ dX7_roll_55
        · have h := (And.right h) c23
          refine zz_sub [0] [(0, .ref (ad 0))] rfl ?_
          exact zu7_roll_34 K hret h
    · have h := (And.right h) c18
      refine zz_sub [0] [(0, .ref (ad 0))] rfl ?_
      exact zu7_roll_9 K hret h
set_option maxRecDepth 100000 in
theorem zc7_roll (l : Launch) (D : va_G) (ad : Nat → Nat) (cy : Nat → ClassId) (v1 : Int32) (σ : zz_St) (Qp : Int32 → zz_St → Prop) (h : zq7_roll v1 σ Qp) : zz_Mi l yX7_roll wsX7_roll zrm7_roll D (tysC cy) (wC ad cy) nwC [.ref (ad 0), .int v1] σ Qp :=
  zz_Mi.of zz_nwC (wC_ad ad cy) (by decide +kernel) rfl ⟨rfl, rfl⟩ (Nat.le_of_ble_eq_true rfl) (fun p e s m args below meth c A QW K hret => zu7_roll_0 K  hret h)
theorem zin_X7_ways_X7 : ∀ w ∈ wsX70, w ∈ wsX7_ways := fun w h => List.mem_cons_of_mem _ (List.mem_append_left _ (List.mem_append_left _ (List.mem_append_right _ h)))
theorem zlk_X7_ways_1 : Cond.fieldLink RX7 26 "SolidsRolled" "world" "LSolidsRolled$World;" ∈ wsX7_ways := List.mem_of_getElem? (i := 1) rfl
theorem zin_X7_ways_X6 : ∀ w ∈ wsX60, w ∈ wsX7_ways := fun w h => List.mem_cons_of_mem _ (List.mem_append_left _ (List.mem_append_right _ h))
theorem zlk_X7_ways_2 : Cond.fieldLink RX7 169 "SolidsRolled$World" "state" "I" ∈ wsX7_ways := List.mem_of_getElem? (i := 2) rfl
abbrev zrm7_ways : Room := { frames := 3, cells := 0, slots := 0, locals := 77 }
set_option maxHeartbeats 4000000 in
set_option maxRecDepth 100000 in
theorem zu7_ways_50 {p : Program} {l : Launch} {e : Env} {s : State} {m : MethodId} {args : Array Value} {below : List Frame} {meth : Method} {c : Code} {Q : State → Prop} {D : va_G} {A : Nat → Prop} {ad : Nat → Nat} {cy : Nat → ClassId} {v1 : Int32} {v2 : Int32} {σ : zz_St} (K : zz_K p s m args c cX7_ways 3 RX7 wsX7_ways D (tysC cy) A (wC ad cy) nwC) {Qp : Int32 → zz_St → Prop} (hret : ∀ (r : Int32) (σ2 : zz_St), narrow .int (.int r) = .int r → Qp r σ2 → ∀ (pc : Nat) (lv : List (Nat × Value)), decode cX7_ways pc = .ok (.ireturn, 1) → zz_G p l e zrm7_ways s m args below meth c Q D A (wC ad cy) 3 pc lv [.int r] σ2) {B21 : Int32 → Int32 → Prop} (hB21 : ∀ (v1' : Int32) (v2' : Int32), B21 v1' v2' → zz_G p l e zrm7_ways s m args below meth c Q D A (wC ad cy) 3 21 [(0, .ref (ad 0)), (1, .int v1'), (2, .int v2')] [] σ) (h : zq7_ways_50 v1 v2 σ Qp B21) : zz_G p l e zrm7_ways s m args below meth c Q D A (wC ad cy) 3 50 [(0, .ref (ad 0)), (1, .int v1), (2, .int v2)] [] σ := by
  unfold zq7_ways_50 at h
  refine zz_iinc K 2 [(2, .int (v2 + (1 : Int32))), (0, .ref (ad 0)), (1, .int v1)] dX7_ways_50 zcCi_1 rfl (by decide) rfl ?_
  refine zz_goto K 21 dX7_ways_53 rfl ?_
  refine zz_sub [1, 2, 0] [(0, .ref (ad 0)), (1, .int v1), (2, .int (v2 + (1 : Int32)))] rfl ?_
  exact hB21 v1 (v2 + (1 : Int32)) h
set_option maxHeartbeats 4000000 in
set_option maxRecDepth 100000 in
theorem zu7_ways_21 {p : Program} {l : Launch} {e : Env} {s : State} {m : MethodId} {args : Array Value} {below : List Frame} {meth : Method} {c : Code} {Q : State → Prop} {D : va_G} {A : Nat → Prop} {ad : Nat → Nat} {cy : Nat → ClassId} {v1 : Int32} {v2 : Int32} {σ : zz_St} (K : zz_K p s m args c cX7_ways 3 RX7 wsX7_ways D (tysC cy) A (wC ad cy) nwC) {Qp : Int32 → zz_St → Prop} (hret : ∀ (r : Int32) (σ2 : zz_St), narrow .int (.int r) = .int r → Qp r σ2 → ∀ (pc : Nat) (lv : List (Nat × Value)), decode cX7_ways pc = .ok (.ireturn, 1) → zz_G p l e zrm7_ways s m args below meth c Q D A (wC ad cy) 3 pc lv [.int r] σ2) (h : zq7_ways_21 v1 v2 σ Qp) : zz_G p l e zrm7_ways s m args below meth c Q D A (wC ad cy) 3 21 [(0, .ref (ad 0)), (1, .int v1), (2, .int v2)] [] σ := by
  unfold zq7_ways_21 at h
  obtain ⟨I21, M21, h0, hs⟩ := h
  have key : ∀ (nq : Nat) (v1 : Int32) (v2 : Int32), M21 v1 v2 < nq → I21 v1 v2 → zz_G p l e zrm7_ways s m args below meth c Q D A (wC ad cy) 3 21 [(0, .ref (ad 0)), (1, .int v1), (2, .int v2)] [] σ := by
    intro nq
    induction nq with
    | zero => intro v1 v2 hlt; exact absurd hlt (Nat.not_lt_zero _)
    | succ nq ih =>
      intro v1 v2 hlt hI
      have h := hs v1 v2 hI
      have hB21 : ∀ (v1' : Int32) (v2' : Int32), (fun v1' v2' => I21 v1' v2' ∧ M21 v1' v2' < M21 v1 v2) v1' v2' → zz_G p l e zrm7_ways s m args below meth c Q D A (wC ad cy) 3 21 [(0, .ref (ad 0)), (1, .int v1'), (2, .int v2')] [] σ := fun v1' v2' hz => ih v1' v2' (Nat.lt_of_lt_of_le hz.2 (Nat.le_of_lt_succ hlt)) hz.1
      refine zz_iload_n K 2 dX7_ways_21 rfl rfl ?_
      refine zz_iconst K dX7_ways_22 zcCi_4 ?_
      refine zz_icmp_ge K 56 dX7_ways_23 rfl (fun c9 => ?_) (fun c9 => ?_)
      · have h := (And.left h) c9
        refine zz_iload_n K 1 dX7_ways_56 rfl rfl ?_
        exact hret _ _ rfl h _ _ dX7_ways_57
      · have h := (And.right h) c9
        refine zz_aload_n K 0 dX7_ways_26 rfl rfl ?_
        refine zg7_0_0 K zin_X7_ways_X7 zlk_X7_ways_1 dX7_ways_27 ?_
        refine zz_aload_n K 0 dX7_ways_30 rfl rfl ?_
        refine zg7_0_0 K zin_X7_ways_X7 zlk_X7_ways_1 dX7_ways_31 ?_
        refine zg6_7_0 K zin_X7_ways_X6 zlk_X7_ways_2 dX7_ways_34 ?_
        refine zz_iload_n K 2 dX7_ways_37 rfl rfl ?_
        refine zz_callVi1 K zz_nwC [.int ((σ).1 8), .int v2] (zc6_rolled l D ad cy ((σ).1 8) v2 σ _  h) gX7_ways_X6_rolled rfl ⟨rfl, rfl⟩ zdsC_yX6_rolled_v ⟨Nat.le_of_ble_eq_true rfl, Nat.le_of_ble_eq_true rfl⟩ (wC_at_1 ad cy σ) rfl rfl rfl rfl (Nat.le_of_ble_eq_true rfl) dX7_ways_38 (fun r10 h => ?_)
        refine zz_if_lt K 50 dX7_ways_41 rfl (fun c11 => ?_) (fun c11 => ?_)
        · have h := (And.left h) c11
          exact zu7_ways_50 K hret hB21 h
        · have h := (And.right h) c11
          refine zz_iload_n K 1 dX7_ways_44 rfl rfl ?_
          refine zz_iconst K dX7_ways_45 zcCi_1 ?_
          refine zz_iload_n K 2 dX7_ways_46 rfl rfl ?_
          refine zz_ishl K dX7_ways_47 ?_
          refine zz_ior K dX7_ways_48 ?_
          refine zz_nmi (fun x12 ex12 => ?_)
          have h := h x12 ex12
          refine zz_istore_n K [(1, .int x12), (0, .ref (ad 0)), (2, .int v2)] dX7_ways_49 rfl (by decide) rfl ?_
          refine zz_sub [1, 0, 2] [(0, .ref (ad 0)), (1, .int x12), (2, .int v2)] rfl ?_
          exact zu7_ways_50 K hret hB21 h
  exact key _ v1 v2 (Nat.lt_succ_self _) h0
set_option maxHeartbeats 4000000 in
set_option maxRecDepth 100000 in
theorem zu7_ways_0 {p : Program} {l : Launch} {e : Env} {s : State} {m : MethodId} {args : Array Value} {below : List Frame} {meth : Method} {c : Code} {Q : State → Prop} {D : va_G} {A : Nat → Prop} {ad : Nat → Nat} {cy : Nat → ClassId}  {σ : zz_St} (K : zz_K p s m args c cX7_ways 3 RX7 wsX7_ways D (tysC cy) A (wC ad cy) nwC) {Qp : Int32 → zz_St → Prop} (hret : ∀ (r : Int32) (σ2 : zz_St), narrow .int (.int r) = .int r → Qp r σ2 → ∀ (pc : Nat) (lv : List (Nat × Value)), decode cX7_ways pc = .ok (.ireturn, 1) → zz_G p l e zrm7_ways s m args below meth c Q D A (wC ad cy) 3 pc lv [.int r] σ2) (h : zq7_ways σ Qp) : zz_G p l e zrm7_ways s m args below meth c Q D A (wC ad cy) 3 0 [(0, .ref (ad 0))] [] σ := by
  unfold zq7_ways at h
  refine zz_aload_n K 0 dX7_ways_0 rfl rfl ?_
  refine zg7_0_0 K zin_X7_ways_X7 zlk_X7_ways_1 dX7_ways_1 ?_
  refine zz_callVi1 K zz_nwC [] (zc6_isNone l D ad cy  σ _  h) gX7_ways_X6_isNone rfl ⟨rfl, rfl⟩ zdsC_yX6_isNone_v ⟨Nat.le_of_ble_eq_true rfl, Nat.le_of_ble_eq_true rfl⟩ (wC_at_1 ad cy σ) rfl rfl rfl rfl (Nat.le_of_ble_eq_true rfl) dX7_ways_4 (fun r13 h => ?_)
  refine zz_if_eq K 17 dX7_ways_7 rfl (fun c14 => ?_) (fun c14 => ?_)
  · have h := (And.left h) c14
    refine zz_iconst K dX7_ways_17 zcCi_0 ?_
    refine zz_istore_n K [(1, .int (0 : Int32)), (0, .ref (ad 0))] dX7_ways_18 rfl (by decide) rfl ?_
    refine zz_iconst K dX7_ways_19 zcCi_0 ?_
    refine zz_istore_n K [(2, .int (0 : Int32)), (1, .int (0 : Int32)), (0, .ref (ad 0))] dX7_ways_20 rfl (by decide) rfl ?_
    refine zz_sub [2, 1, 0] [(0, .ref (ad 0)), (1, .int (0 : Int32)), (2, .int (0 : Int32))] rfl ?_
    exact zu7_ways_21 K hret h
  · have h := (And.right h) c14
    refine zz_aload_n K 0 dX7_ways_10 rfl rfl ?_
    refine zz_bipush K dX7_ways_11 zcCb_m3 ?_
    refine zz_callVi K zz_nwC [.int (-3 : Int32)] (zc7_refuse l D ad cy (-3 : Int32) σ _  h) gX7_ways_X7_refuse rfl ⟨rfl, rfl⟩ zdsC_yX7_refuse_v ⟨Nat.le_of_ble_eq_true rfl, Nat.le_of_ble_eq_true rfl⟩ (wC_at_0 ad cy σ) rfl rfl rfl rfl (Nat.le_of_ble_eq_true rfl) dX7_ways_13 (fun r15 g16 h => ?_)
    exact hret _ _ rfl h _ _ dX7_ways_16
set_option maxRecDepth 100000 in
theorem zc7_ways (l : Launch) (D : va_G) (ad : Nat → Nat) (cy : Nat → ClassId)  (σ : zz_St) (Qp : Int32 → zz_St → Prop) (h : zq7_ways σ Qp) : zz_Mi l yX7_ways wsX7_ways zrm7_ways D (tysC cy) (wC ad cy) nwC [.ref (ad 0)] σ Qp :=
  zz_Mi.of zz_nwC (wC_ad ad cy) (by decide +kernel) rfl ⟨rfl, rfl⟩ (Nat.le_of_ble_eq_true rfl) (fun p e s m args below meth c A QW K hret => zu7_ways_0 K  hret h)
theorem zin_X7_walks_X7 : ∀ w ∈ wsX70, w ∈ wsX7_walks := fun w h => List.mem_cons_of_mem _ (List.mem_append_left _ (List.mem_append_left _ (List.mem_append_left _ (List.mem_append_left _ (List.mem_append_right _ h)))))
theorem zlk_X7_walks_1 : Cond.fieldLink RX7 26 "SolidsRolled" "world" "LSolidsRolled$World;" ∈ wsX7_walks := List.mem_of_getElem? (i := 1) rfl
theorem zlk_X7_walks_2 : Cond.fieldLink RX7 40 "SolidsRolled" "letters" "LSolidsRolled$Letters;" ∈ wsX7_walks := List.mem_of_getElem? (i := 2) rfl
theorem zin_X7_walks_X1 : ∀ w ∈ wsX10, w ∈ wsX7_walks := fun w h => List.mem_cons_of_mem _ (List.mem_append_left _ (List.mem_append_left _ (List.mem_append_left _ (List.mem_append_right _ h))))
theorem zlk_X7_walks_3 : Cond.fieldLink RX7 87 "SolidsRolled$Letters" "size" "I" ∈ wsX7_walks := List.mem_of_getElem? (i := 3) rfl
theorem zdsC_yX1_wayAt_v : yX1_wayAt.cls = RX1 ∧ yX1_wayAt.cls ≠ "java/lang/invoke/MethodHandle" ∧ yX1_wayAt.cls ≠ "java/lang/invoke/VarHandle" ∧ (parseMethodDescriptor yX1_wayAt.desc).map (fun d => d.parameters.length) = some 1 := by decide +kernel
abbrev zrm7_walks : Room := { frames := 5, cells := 0, slots := 0, locals := 110 }
set_option maxHeartbeats 4000000 in
set_option maxRecDepth 100000 in
theorem zu7_walks_75 {p : Program} {l : Launch} {e : Env} {s : State} {m : MethodId} {args : Array Value} {below : List Frame} {meth : Method} {c : Code} {Q : State → Prop} {D : va_G} {A : Nat → Prop} {ad : Nat → Nat} {cy : Nat → ClassId} {v1 : Int32} {v2 : Int32} {v3 : Int32} {σ : zz_St} (K : zz_K p s m args c cX7_walks 5 RX7 wsX7_walks D (tysC cy) A (wC ad cy) nwC) {Qp : Int32 → zz_St → Prop} (hret : ∀ (r : Int32) (σ2 : zz_St), narrow .int (.int r) = .int r → Qp r σ2 → ∀ (pc : Nat) (lv : List (Nat × Value)), decode cX7_walks pc = .ok (.ireturn, 1) → zz_G p l e zrm7_walks s m args below meth c Q D A (wC ad cy) 5 pc lv [.int r] σ2) {B23 : Int32 → Int32 → Int32 → zz_St → Prop} (hB23 : ∀ (v1' : Int32) (v2' : Int32) (v3' : Int32) (σ' : zz_St), B23 v1' v2' v3' σ' → zz_G p l e zrm7_walks s m args below meth c Q D A (wC ad cy) 5 23 [(0, .ref (ad 0)), (1, .int v1'), (2, .int v2'), (3, .int v3')] [] σ') (h : zq7_walks_75 v1 v2 v3 σ Qp B23) : zz_G p l e zrm7_walks s m args below meth c Q D A (wC ad cy) 5 75 [(0, .ref (ad 0)), (1, .int v1), (2, .int v2), (3, .int v3)] [] σ := by
  unfold zq7_walks_75 at h
  refine zz_iinc K 3 [(3, .int (v3 + (1 : Int32))), (0, .ref (ad 0)), (1, .int v1), (2, .int v2)] dX7_walks_75 zcCi_1 rfl (by decide) rfl ?_
  refine zz_goto K 23 dX7_walks_78 rfl ?_
  refine zz_sub [1, 2, 3, 0] [(0, .ref (ad 0)), (1, .int v1), (2, .int v2), (3, .int (v3 + (1 : Int32)))] rfl ?_
  exact hB23 v1 v2 (v3 + (1 : Int32)) σ h
set_option maxHeartbeats 4000000 in
set_option maxRecDepth 100000 in
theorem zu7_walks_67 {p : Program} {l : Launch} {e : Env} {s : State} {m : MethodId} {args : Array Value} {below : List Frame} {meth : Method} {c : Code} {Q : State → Prop} {D : va_G} {A : Nat → Prop} {ad : Nat → Nat} {cy : Nat → ClassId} {v1 : Int32} {v3 : Int32} {s0 : Int32} {σ : zz_St} (K : zz_K p s m args c cX7_walks 5 RX7 wsX7_walks D (tysC cy) A (wC ad cy) nwC) {Qp : Int32 → zz_St → Prop} (hret : ∀ (r : Int32) (σ2 : zz_St), narrow .int (.int r) = .int r → Qp r σ2 → ∀ (pc : Nat) (lv : List (Nat × Value)), decode cX7_walks pc = .ok (.ireturn, 1) → zz_G p l e zrm7_walks s m args below meth c Q D A (wC ad cy) 5 pc lv [.int r] σ2) {B23 : Int32 → Int32 → Int32 → zz_St → Prop} (hB23 : ∀ (v1' : Int32) (v2' : Int32) (v3' : Int32) (σ' : zz_St), B23 v1' v2' v3' σ' → zz_G p l e zrm7_walks s m args below meth c Q D A (wC ad cy) 5 23 [(0, .ref (ad 0)), (1, .int v1'), (2, .int v2'), (3, .int v3')] [] σ') (h : zq7_walks_67 v1 v3 s0 σ Qp B23) : zz_G p l e zrm7_walks s m args below meth c Q D A (wC ad cy) 5 67 [(0, .ref (ad 0)), (1, .int v1), (3, .int v3)] [.int s0] σ := by
  unfold zq7_walks_67 at h
  refine zz_istore_n K [(2, .int s0), (0, .ref (ad 0)), (1, .int v1), (3, .int v3)] dX7_walks_67 rfl (by decide) rfl ?_
  refine zz_iload_n K 0 dX7_walks_68 rfl rfl ?_
  refine zz_if_eq K 75 dX7_walks_69 rfl (fun c14 => ?_) (fun c14 => ?_)
  · have h := (And.left h) c14
    refine zz_sub [1, 2, 0, 3] [(0, .ref (ad 0)), (1, .int v1), (2, .int s0), (3, .int v3)] rfl ?_
    exact zu7_walks_75 K hret hB23 h
  · have h := (And.right h) c14
    refine zz_iinc K 2 [(1, .int (v1 + (1 : Int32))), (2, .int s0), (0, .ref (ad 0)), (3, .int v3)] dX7_walks_72 zcCi_1 rfl (by decide) rfl ?_
    refine zz_sub [2, 0, 1, 3] [(0, .ref (ad 0)), (1, .int (v1 + (1 : Int32))), (2, .int s0), (3, .int v3)] rfl ?_
    exact zu7_walks_75 K hret hB23 h
set_option maxHeartbeats 4000000 in
set_option maxRecDepth 100000 in
theorem zu7_walks_66 {p : Program} {l : Launch} {e : Env} {s : State} {m : MethodId} {args : Array Value} {below : List Frame} {meth : Method} {c : Code} {Q : State → Prop} {D : va_G} {A : Nat → Prop} {ad : Nat → Nat} {cy : Nat → ClassId} {v1 : Int32} {v3 : Int32} {σ : zz_St} (K : zz_K p s m args c cX7_walks 5 RX7 wsX7_walks D (tysC cy) A (wC ad cy) nwC) {Qp : Int32 → zz_St → Prop} (hret : ∀ (r : Int32) (σ2 : zz_St), narrow .int (.int r) = .int r → Qp r σ2 → ∀ (pc : Nat) (lv : List (Nat × Value)), decode cX7_walks pc = .ok (.ireturn, 1) → zz_G p l e zrm7_walks s m args below meth c Q D A (wC ad cy) 5 pc lv [.int r] σ2) {B23 : Int32 → Int32 → Int32 → zz_St → Prop} (hB23 : ∀ (v1' : Int32) (v2' : Int32) (v3' : Int32) (σ' : zz_St), B23 v1' v2' v3' σ' → zz_G p l e zrm7_walks s m args below meth c Q D A (wC ad cy) 5 23 [(0, .ref (ad 0)), (1, .int v1'), (2, .int v2'), (3, .int v3')] [] σ') (h : zq7_walks_66 v1 v3 σ Qp B23) : zz_G p l e zrm7_walks s m args below meth c Q D A (wC ad cy) 5 66 [(0, .ref (ad 0)), (1, .int v1), (3, .int v3)] [] σ := by
  unfold zq7_walks_66 at h
  refine zz_iconst K dX7_walks_66 zcCi_0 ?_
  exact zu7_walks_67 K hret hB23 h
set_option maxHeartbeats 4000000 in
set_option maxRecDepth 100000 in
theorem zu7_walks_81 {p : Program} {l : Launch} {e : Env} {s : State} {m : MethodId} {args : Array Value} {below : List Frame} {meth : Method} {c : Code} {Q : State → Prop} {D : va_G} {A : Nat → Prop} {ad : Nat → Nat} {cy : Nat → ClassId} {v1 : Int32} {σ : zz_St} (K : zz_K p s m args c cX7_walks 5 RX7 wsX7_walks D (tysC cy) A (wC ad cy) nwC) {Qp : Int32 → zz_St → Prop} (hret : ∀ (r : Int32) (σ2 : zz_St), narrow .int (.int r) = .int r → Qp r σ2 → ∀ (pc : Nat) (lv : List (Nat × Value)), decode cX7_walks pc = .ok (.ireturn, 1) → zz_G p l e zrm7_walks s m args below meth c Q D A (wC ad cy) 5 pc lv [.int r] σ2) (h : zq7_walks_81 v1 σ Qp) : zz_G p l e zrm7_walks s m args below meth c Q D A (wC ad cy) 5 81 [(0, .ref (ad 0)), (1, .int v1)] [] σ := by
  unfold zq7_walks_81 at h
  refine zz_aload_n K 0 dX7_walks_81 rfl rfl ?_
  refine zg7_3_0 K zin_X7_walks_X7 zlk_X7_walks_2 dX7_walks_82 ?_
  refine zz_callVv K zz_nwC [] (zc1_clear l D ad cy  σ _  h) gX7_walks_X1_clear rfl ⟨rfl, rfl⟩ zdsC_yX1_clear_v ⟨Nat.le_of_ble_eq_true rfl, Nat.le_of_ble_eq_true rfl⟩ (wC_at_3 ad cy σ) rfl rfl rfl rfl (Nat.le_of_ble_eq_true rfl) dX7_walks_85 (fun g15 h => ?_)
  refine zz_iload_n K 1 dX7_walks_88 rfl rfl ?_
  exact hret _ _ rfl h _ _ dX7_walks_89
set_option maxHeartbeats 4000000 in
set_option maxRecDepth 100000 in
theorem zu7_walks_23 {p : Program} {l : Launch} {e : Env} {s : State} {m : MethodId} {args : Array Value} {below : List Frame} {meth : Method} {c : Code} {Q : State → Prop} {D : va_G} {A : Nat → Prop} {ad : Nat → Nat} {cy : Nat → ClassId} {v1 : Int32} {v2 : Int32} {v3 : Int32} {σ : zz_St} (K : zz_K p s m args c cX7_walks 5 RX7 wsX7_walks D (tysC cy) A (wC ad cy) nwC) {Qp : Int32 → zz_St → Prop} (hret : ∀ (r : Int32) (σ2 : zz_St), narrow .int (.int r) = .int r → Qp r σ2 → ∀ (pc : Nat) (lv : List (Nat × Value)), decode cX7_walks pc = .ok (.ireturn, 1) → zz_G p l e zrm7_walks s m args below meth c Q D A (wC ad cy) 5 pc lv [.int r] σ2) (h : zq7_walks_23 v1 v2 v3 σ Qp) : zz_G p l e zrm7_walks s m args below meth c Q D A (wC ad cy) 5 23 [(0, .ref (ad 0)), (1, .int v1), (2, .int v2), (3, .int v3)] [] σ := by
  unfold zq7_walks_23 at h
  obtain ⟨I23, M23, h0, hs⟩ := h
  have key : ∀ (nq : Nat) (v1 : Int32) (v2 : Int32) (v3 : Int32) (σ : zz_St), M23 v1 v2 v3 σ < nq → I23 v1 v2 v3 σ → zz_G p l e zrm7_walks s m args below meth c Q D A (wC ad cy) 5 23 [(0, .ref (ad 0)), (1, .int v1), (2, .int v2), (3, .int v3)] [] σ := by
    intro nq
    induction nq with
    | zero => intro v1 v2 v3 σ hlt; exact absurd hlt (Nat.not_lt_zero _)
    | succ nq ih =>
      intro v1 v2 v3 σ hlt hI
      have h := hs v1 v2 v3 σ hI
      have hB23 : ∀ (v1' : Int32) (v2' : Int32) (v3' : Int32) (σ' : zz_St), (fun v1' v2' v3' σ' => I23 v1' v2' v3' σ' ∧ M23 v1' v2' v3' σ' < M23 v1 v2 v3 σ) v1' v2' v3' σ' → zz_G p l e zrm7_walks s m args below meth c Q D A (wC ad cy) 5 23 [(0, .ref (ad 0)), (1, .int v1'), (2, .int v2'), (3, .int v3')] [] σ' := fun v1' v2' v3' σ' hz => ih v1' v2' v3' σ' (Nat.lt_of_lt_of_le hz.2 (Nat.le_of_lt_succ hlt)) hz.1
      refine zz_iload_n K 3 dX7_walks_23 rfl rfl ?_
      refine zz_aload_n K 0 dX7_walks_24 rfl rfl ?_
      refine zg7_3_0 K zin_X7_walks_X7 zlk_X7_walks_2 dX7_walks_25 ?_
      refine zg1_1_0 K zin_X7_walks_X1 zlk_X7_walks_3 dX7_walks_28 ?_
      refine zz_icmp_ge K 81 dX7_walks_31 rfl (fun c16 => ?_) (fun c16 => ?_)
      · have h := (And.left h) c16
        refine zz_sub [0, 1] [(0, .ref (ad 0)), (1, .int v1)] rfl ?_
        exact zu7_walks_81 K hret h
      · have h := (And.right h) c16
        refine zz_iload_n K 2 dX7_walks_34 rfl rfl ?_
        refine zz_if_eq K 81 dX7_walks_35 rfl (fun c17 => ?_) (fun c17 => ?_)
        · have h := (And.left h) c17
          refine zz_sub [0, 1] [(0, .ref (ad 0)), (1, .int v1)] rfl ?_
          exact zu7_walks_81 K hret h
        · have h := (And.right h) c17
          refine zz_aload_n K 0 dX7_walks_38 rfl rfl ?_
          refine zg7_3_0 K zin_X7_walks_X7 zlk_X7_walks_2 dX7_walks_39 ?_
          refine zz_iload_n K 3 dX7_walks_42 rfl rfl ?_
          refine zz_callVi1 K zz_nwC [.int v3] (zc1_wayAt l D ad cy v3 σ _  h) gX7_walks_X1_wayAt rfl ⟨rfl, rfl⟩ zdsC_yX1_wayAt_v ⟨Nat.le_of_ble_eq_true rfl, Nat.le_of_ble_eq_true rfl⟩ (wC_at_3 ad cy σ) rfl rfl rfl rfl (Nat.le_of_ble_eq_true rfl) dX7_walks_43 (fun r18 h => ?_)
          refine zz_istore K [(4, .int r18), (0, .ref (ad 0)), (1, .int v1), (2, .int v2), (3, .int v3)] dX7_walks_46 (by decide) rfl ?_
          refine zz_iload K 0 dX7_walks_48 rfl ?_
          refine zz_if_lt K 66 dX7_walks_50 rfl (fun c19 => ?_) (fun c19 => ?_)
          · have h := (And.left h) c19
            refine zz_sub [1, 2, 4] [(0, .ref (ad 0)), (1, .int v1), (3, .int v3)] rfl ?_
            exact zu7_walks_66 K hret hB23 h
          · have h := (And.right h) c19
            refine zz_aload_n K 1 dX7_walks_53 rfl rfl ?_
            refine zz_iload K 0 dX7_walks_54 rfl ?_
            refine zz_callVi K zz_nwC [.int r18] (zc7_rollTruly l D ad cy r18 σ _  h) gX7_walks_X7_rollTruly rfl ⟨rfl, rfl⟩ zdsC_yX7_rollTruly_v ⟨Nat.le_of_ble_eq_true rfl, Nat.le_of_ble_eq_true rfl⟩ (wC_at_0 ad cy σ) rfl rfl rfl rfl (Nat.le_of_ble_eq_true rfl) dX7_walks_56 (fun r20 g21 h => ?_)
            refine zz_if_eq K 66 dX7_walks_59 rfl (fun c22 => ?_) (fun c22 => ?_)
            · have h := (And.left h) c22
              refine zz_sub [1, 2, 4] [(0, .ref (ad 0)), (1, .int v1), (3, .int v3)] rfl ?_
              exact zu7_walks_66 K hret hB23 h
            · have h := (And.right h) c22
              refine zz_iconst K dX7_walks_62 zcCi_1 ?_
              refine zz_goto K 67 dX7_walks_63 rfl ?_
              refine zz_sub [1, 2, 4] [(0, .ref (ad 0)), (1, .int v1), (3, .int v3)] rfl ?_
              exact zu7_walks_67 K hret hB23 h
  exact key _ v1 v2 v3 σ (Nat.lt_succ_self _) h0
set_option maxHeartbeats 4000000 in
set_option maxRecDepth 100000 in
theorem zu7_walks_0 {p : Program} {l : Launch} {e : Env} {s : State} {m : MethodId} {args : Array Value} {below : List Frame} {meth : Method} {c : Code} {Q : State → Prop} {D : va_G} {A : Nat → Prop} {ad : Nat → Nat} {cy : Nat → ClassId}  {σ : zz_St} (K : zz_K p s m args c cX7_walks 5 RX7 wsX7_walks D (tysC cy) A (wC ad cy) nwC) {Qp : Int32 → zz_St → Prop} (hret : ∀ (r : Int32) (σ2 : zz_St), narrow .int (.int r) = .int r → Qp r σ2 → ∀ (pc : Nat) (lv : List (Nat × Value)), decode cX7_walks pc = .ok (.ireturn, 1) → zz_G p l e zrm7_walks s m args below meth c Q D A (wC ad cy) 5 pc lv [.int r] σ2) (h : zq7_walks σ Qp) : zz_G p l e zrm7_walks s m args below meth c Q D A (wC ad cy) 5 0 [(0, .ref (ad 0))] [] σ := by
  unfold zq7_walks at h
  refine zz_aload_n K 0 dX7_walks_0 rfl rfl ?_
  refine zg7_0_0 K zin_X7_walks_X7 zlk_X7_walks_1 dX7_walks_1 ?_
  refine zz_callVi1 K zz_nwC [] (zc6_isNone l D ad cy  σ _  h) gX7_walks_X6_isNone rfl ⟨rfl, rfl⟩ zdsC_yX6_isNone_v ⟨Nat.le_of_ble_eq_true rfl, Nat.le_of_ble_eq_true rfl⟩ (wC_at_1 ad cy σ) rfl rfl rfl rfl (Nat.le_of_ble_eq_true rfl) dX7_walks_4 (fun r23 h => ?_)
  refine zz_if_eq K 17 dX7_walks_7 rfl (fun c24 => ?_) (fun c24 => ?_)
  · have h := (And.left h) c24
    refine zz_iconst K dX7_walks_17 zcCi_0 ?_
    refine zz_istore_n K [(1, .int (0 : Int32)), (0, .ref (ad 0))] dX7_walks_18 rfl (by decide) rfl ?_
    refine zz_iconst K dX7_walks_19 zcCi_1 ?_
    refine zz_istore_n K [(2, .int (1 : Int32)), (1, .int (0 : Int32)), (0, .ref (ad 0))] dX7_walks_20 rfl (by decide) rfl ?_
    refine zz_iconst K dX7_walks_21 zcCi_0 ?_
    refine zz_istore_n K [(3, .int (0 : Int32)), (2, .int (1 : Int32)), (1, .int (0 : Int32)), (0, .ref (ad 0))] dX7_walks_22 rfl (by decide) rfl ?_
    refine zz_sub [3, 2, 1, 0] [(0, .ref (ad 0)), (1, .int (0 : Int32)), (2, .int (1 : Int32)), (3, .int (0 : Int32))] rfl ?_
    exact zu7_walks_23 K hret h
  · have h := (And.right h) c24
    refine zz_aload_n K 0 dX7_walks_10 rfl rfl ?_
    refine zz_bipush K dX7_walks_11 zcCb_m3 ?_
    refine zz_callVi K zz_nwC [.int (-3 : Int32)] (zc7_refuse l D ad cy (-3 : Int32) σ _  h) gX7_walks_X7_refuse rfl ⟨rfl, rfl⟩ zdsC_yX7_refuse_v ⟨Nat.le_of_ble_eq_true rfl, Nat.le_of_ble_eq_true rfl⟩ (wC_at_0 ad cy σ) rfl rfl rfl rfl (Nat.le_of_ble_eq_true rfl) dX7_walks_13 (fun r25 g26 h => ?_)
    exact hret _ _ rfl h _ _ dX7_walks_16
set_option maxRecDepth 100000 in
theorem zc7_walks (l : Launch) (D : va_G) (ad : Nat → Nat) (cy : Nat → ClassId)  (σ : zz_St) (Qp : Int32 → zz_St → Prop) (h : zq7_walks σ Qp) : zz_Mi l yX7_walks wsX7_walks zrm7_walks D (tysC cy) (wC ad cy) nwC [.ref (ad 0)] σ Qp :=
  zz_Mi.of zz_nwC (wC_ad ad cy) (by decide +kernel) rfl ⟨rfl, rfl⟩ (Nat.le_of_ble_eq_true rfl) (fun p e s m args below meth c A QW K hret => zu7_walks_0 K  hret h)
theorem zin_X7_judge_X7 : ∀ w ∈ wsX70, w ∈ wsX7_judge := fun w h => List.mem_cons_of_mem _ (List.mem_append_left _ (List.mem_append_left _ (List.mem_append_left _ (List.mem_append_right _ h))))
theorem zlk_X7_judge_1 : Cond.fieldLink RX7 26 "SolidsRolled" "world" "LSolidsRolled$World;" ∈ wsX7_judge := List.mem_of_getElem? (i := 1) rfl
theorem zin_X7_judge_X6 : ∀ w ∈ wsX60, w ∈ wsX7_judge := fun w h => List.mem_cons_of_mem _ (List.mem_append_left _ (List.mem_append_left _ (List.mem_append_right _ h)))
theorem zlk_X7_judge_2 : Cond.fieldLink RX7 169 "SolidsRolled$World" "state" "I" ∈ wsX7_judge := List.mem_of_getElem? (i := 2) rfl
theorem zlk_X7_judge_3 : Cond.fieldLink RX7 40 "SolidsRolled" "letters" "LSolidsRolled$Letters;" ∈ wsX7_judge := List.mem_of_getElem? (i := 3) rfl
theorem zin_X7_judge_X1 : ∀ w ∈ wsX10, w ∈ wsX7_judge := fun w h => List.mem_cons_of_mem _ (List.mem_append_left _ (List.mem_append_right _ h))
theorem zlk_X7_judge_4 : Cond.fieldLink RX7 87 "SolidsRolled$Letters" "size" "I" ∈ wsX7_judge := List.mem_of_getElem? (i := 4) rfl
abbrev zrm7_judge : Room := { frames := 3, cells := 0, slots := 0, locals := 77 }
set_option maxHeartbeats 4000000 in
set_option maxRecDepth 100000 in
theorem zu7_judge_64 {p : Program} {l : Launch} {e : Env} {s : State} {m : MethodId} {args : Array Value} {below : List Frame} {meth : Method} {c : Code} {Q : State → Prop} {D : va_G} {A : Nat → Prop} {ad : Nat → Nat} {cy : Nat → ClassId} {v2 : Int32} {s0 : Int32} {σ : zz_St} (K : zz_K p s m args c cX7_judge 4 RX7 wsX7_judge D (tysC cy) A (wC ad cy) nwC) {Qp : Int32 → zz_St → Prop} (hret : ∀ (r : Int32) (σ2 : zz_St), narrow .int (.int r) = .int r → Qp r σ2 → ∀ (pc : Nat) (lv : List (Nat × Value)), decode cX7_judge pc = .ok (.ireturn, 1) → zz_G p l e zrm7_judge s m args below meth c Q D A (wC ad cy) 4 pc lv [.int r] σ2) {B27 : Int32 → Int32 → Prop} (hB27 : ∀ (v1' : Int32) (v2' : Int32), B27 v1' v2' → zz_G p l e zrm7_judge s m args below meth c Q D A (wC ad cy) 4 27 [(0, .ref (ad 0)), (1, .int v1'), (2, .int v2')] [] σ) (h : zq7_judge_64 v2 s0 σ Qp B27) : zz_G p l e zrm7_judge s m args below meth c Q D A (wC ad cy) 4 64 [(0, .ref (ad 0)), (2, .int v2)] [.int s0] σ := by
  unfold zq7_judge_64 at h
  refine zz_istore_n K [(1, .int s0), (0, .ref (ad 0)), (2, .int v2)] dX7_judge_64 rfl (by decide) rfl ?_
  refine zz_iload_n K 0 dX7_judge_65 rfl rfl ?_
  refine zz_if_ge K 71 dX7_judge_66 rfl (fun c11 => ?_) (fun c11 => ?_)
  · have h := (And.left h) c11
    refine zz_iinc K 2 [(2, .int (v2 + (1 : Int32))), (1, .int s0), (0, .ref (ad 0))] dX7_judge_71 zcCi_1 rfl (by decide) rfl ?_
    refine zz_goto K 27 dX7_judge_74 rfl ?_
    refine zz_sub [2, 1, 0] [(0, .ref (ad 0)), (1, .int s0), (2, .int (v2 + (1 : Int32)))] rfl ?_
    exact hB27 s0 (v2 + (1 : Int32)) h
  · have h := (And.right h) c11
    refine zz_iload_n K 2 dX7_judge_69 rfl rfl ?_
    exact hret _ _ rfl h _ _ dX7_judge_70
set_option maxHeartbeats 4000000 in
set_option maxRecDepth 100000 in
theorem zu7_judge_27 {p : Program} {l : Launch} {e : Env} {s : State} {m : MethodId} {args : Array Value} {below : List Frame} {meth : Method} {c : Code} {Q : State → Prop} {D : va_G} {A : Nat → Prop} {ad : Nat → Nat} {cy : Nat → ClassId} {v1 : Int32} {v2 : Int32} {σ : zz_St} (K : zz_K p s m args c cX7_judge 4 RX7 wsX7_judge D (tysC cy) A (wC ad cy) nwC) {Qp : Int32 → zz_St → Prop} (hret : ∀ (r : Int32) (σ2 : zz_St), narrow .int (.int r) = .int r → Qp r σ2 → ∀ (pc : Nat) (lv : List (Nat × Value)), decode cX7_judge pc = .ok (.ireturn, 1) → zz_G p l e zrm7_judge s m args below meth c Q D A (wC ad cy) 4 pc lv [.int r] σ2) (h : zq7_judge_27 v1 v2 σ Qp) : zz_G p l e zrm7_judge s m args below meth c Q D A (wC ad cy) 4 27 [(0, .ref (ad 0)), (1, .int v1), (2, .int v2)] [] σ := by
  unfold zq7_judge_27 at h
  obtain ⟨I27, M27, h0, hs⟩ := h
  have key : ∀ (nq : Nat) (v1 : Int32) (v2 : Int32), M27 v1 v2 < nq → I27 v1 v2 → zz_G p l e zrm7_judge s m args below meth c Q D A (wC ad cy) 4 27 [(0, .ref (ad 0)), (1, .int v1), (2, .int v2)] [] σ := by
    intro nq
    induction nq with
    | zero => intro v1 v2 hlt; exact absurd hlt (Nat.not_lt_zero _)
    | succ nq ih =>
      intro v1 v2 hlt hI
      have h := hs v1 v2 hI
      have hB27 : ∀ (v1' : Int32) (v2' : Int32), (fun v1' v2' => I27 v1' v2' ∧ M27 v1' v2' < M27 v1 v2) v1' v2' → zz_G p l e zrm7_judge s m args below meth c Q D A (wC ad cy) 4 27 [(0, .ref (ad 0)), (1, .int v1'), (2, .int v2')] [] σ := fun v1' v2' hz => ih v1' v2' (Nat.lt_of_lt_of_le hz.2 (Nat.le_of_lt_succ hlt)) hz.1
      refine zz_iload_n K 2 dX7_judge_27 rfl rfl ?_
      refine zz_aload_n K 0 dX7_judge_28 rfl rfl ?_
      refine zg7_3_0 K zin_X7_judge_X7 zlk_X7_judge_3 dX7_judge_29 ?_
      refine zg1_1_0 K zin_X7_judge_X1 zlk_X7_judge_4 dX7_judge_32 ?_
      refine zz_icmp_ge K 77 dX7_judge_35 rfl (fun c12 => ?_) (fun c12 => ?_)
      · have h := (And.left h) c12
        refine zz_bipush K dX7_judge_77 zcCb_m9 ?_
        exact hret _ _ rfl h _ _ dX7_judge_79
      · have h := (And.right h) c12
        refine zz_aload_n K 0 dX7_judge_38 rfl rfl ?_
        refine zg7_3_0 K zin_X7_judge_X7 zlk_X7_judge_3 dX7_judge_39 ?_
        refine zz_iload_n K 2 dX7_judge_42 rfl rfl ?_
        refine zz_callVi1 K zz_nwC [.int v2] (zc1_wayAt l D ad cy v2 σ _  h) gX7_judge_X1_wayAt rfl ⟨rfl, rfl⟩ zdsC_yX1_wayAt_v ⟨Nat.le_of_ble_eq_true rfl, Nat.le_of_ble_eq_true rfl⟩ (wC_at_3 ad cy σ) rfl rfl rfl rfl (Nat.le_of_ble_eq_true rfl) dX7_judge_43 (fun r13 h => ?_)
        refine zz_istore_n K [(3, .int r13), (0, .ref (ad 0)), (1, .int v1), (2, .int v2)] dX7_judge_46 rfl (by decide) rfl ?_
        refine zz_iload_n K 0 dX7_judge_47 rfl rfl ?_
        refine zz_if_ge K 55 dX7_judge_48 rfl (fun c14 => ?_) (fun c14 => ?_)
        · have h := (And.left h) c14
          refine zz_aload_n K 1 dX7_judge_55 rfl rfl ?_
          refine zg7_0_0 K zin_X7_judge_X7 zlk_X7_judge_1 dX7_judge_56 ?_
          refine zz_iload_n K 2 dX7_judge_59 rfl rfl ?_
          refine zz_iload_n K 0 dX7_judge_60 rfl rfl ?_
          refine zz_callVi1 K zz_nwC [.int v1, .int r13] (zc6_rolled l D ad cy v1 r13 σ _  h) gX7_judge_X6_rolled rfl ⟨rfl, rfl⟩ zdsC_yX6_rolled_v ⟨Nat.le_of_ble_eq_true rfl, Nat.le_of_ble_eq_true rfl⟩ (wC_at_1 ad cy σ) rfl rfl rfl rfl (Nat.le_of_ble_eq_true rfl) dX7_judge_61 (fun r15 h => ?_)
          refine zz_sub [1, 3] [(0, .ref (ad 0)), (2, .int v2)] rfl ?_
          exact zu7_judge_64 K hret hB27 h
        · have h := (And.right h) c14
          refine zz_iconst K dX7_judge_51 zcCi_m1 ?_
          refine zz_goto K 64 dX7_judge_52 rfl ?_
          refine zz_sub [1, 3] [(0, .ref (ad 0)), (2, .int v2)] rfl ?_
          exact zu7_judge_64 K hret hB27 h
  exact key _ v1 v2 (Nat.lt_succ_self _) h0
set_option maxHeartbeats 4000000 in
set_option maxRecDepth 100000 in
theorem zu7_judge_0 {p : Program} {l : Launch} {e : Env} {s : State} {m : MethodId} {args : Array Value} {below : List Frame} {meth : Method} {c : Code} {Q : State → Prop} {D : va_G} {A : Nat → Prop} {ad : Nat → Nat} {cy : Nat → ClassId}  {σ : zz_St} (K : zz_K p s m args c cX7_judge 4 RX7 wsX7_judge D (tysC cy) A (wC ad cy) nwC) {Qp : Int32 → zz_St → Prop} (hret : ∀ (r : Int32) (σ2 : zz_St), narrow .int (.int r) = .int r → Qp r σ2 → ∀ (pc : Nat) (lv : List (Nat × Value)), decode cX7_judge pc = .ok (.ireturn, 1) → zz_G p l e zrm7_judge s m args below meth c Q D A (wC ad cy) 4 pc lv [.int r] σ2) (h : zq7_judge σ Qp) : zz_G p l e zrm7_judge s m args below meth c Q D A (wC ad cy) 4 0 [(0, .ref (ad 0))] [] σ := by
  unfold zq7_judge at h
  refine zz_aload_n K 0 dX7_judge_0 rfl rfl ?_
  refine zg7_0_0 K zin_X7_judge_X7 zlk_X7_judge_1 dX7_judge_1 ?_
  refine zz_callVi1 K zz_nwC [] (zc6_isNone l D ad cy  σ _  h) gX7_judge_X6_isNone rfl ⟨rfl, rfl⟩ zdsC_yX6_isNone_v ⟨Nat.le_of_ble_eq_true rfl, Nat.le_of_ble_eq_true rfl⟩ (wC_at_1 ad cy σ) rfl rfl rfl rfl (Nat.le_of_ble_eq_true rfl) dX7_judge_4 (fun r16 h => ?_)
  refine zz_if_eq K 17 dX7_judge_7 rfl (fun c17 => ?_) (fun c17 => ?_)
  · have h := (And.left h) c17
    refine zz_aload_n K 0 dX7_judge_17 rfl rfl ?_
    refine zg7_0_0 K zin_X7_judge_X7 zlk_X7_judge_1 dX7_judge_18 ?_
    refine zg6_7_0 K zin_X7_judge_X6 zlk_X7_judge_2 dX7_judge_21 ?_
    refine zz_nmi (fun x18 ex18 => ?_)
    have h := h x18 ex18
    refine zz_istore_n K [(1, .int x18), (0, .ref (ad 0))] dX7_judge_24 rfl (by decide) rfl ?_
    refine zz_iconst K dX7_judge_25 zcCi_0 ?_
    refine zz_istore_n K [(2, .int (0 : Int32)), (1, .int x18), (0, .ref (ad 0))] dX7_judge_26 rfl (by decide) rfl ?_
    refine zz_sub [2, 1, 0] [(0, .ref (ad 0)), (1, .int x18), (2, .int (0 : Int32))] rfl ?_
    exact zu7_judge_27 K hret h
  · have h := (And.right h) c17
    refine zz_aload_n K 0 dX7_judge_10 rfl rfl ?_
    refine zz_bipush K dX7_judge_11 zcCb_m3 ?_
    refine zz_callVi K zz_nwC [.int (-3 : Int32)] (zc7_refuse l D ad cy (-3 : Int32) σ _  h) gX7_judge_X7_refuse rfl ⟨rfl, rfl⟩ zdsC_yX7_refuse_v ⟨Nat.le_of_ble_eq_true rfl, Nat.le_of_ble_eq_true rfl⟩ (wC_at_0 ad cy σ) rfl rfl rfl rfl (Nat.le_of_ble_eq_true rfl) dX7_judge_13 (fun r19 g20 h => ?_)
    exact hret _ _ rfl h _ _ dX7_judge_16
set_option maxRecDepth 100000 in
theorem zc7_judge (l : Launch) (D : va_G) (ad : Nat → Nat) (cy : Nat → ClassId)  (σ : zz_St) (Qp : Int32 → zz_St → Prop) (h : zq7_judge σ Qp) : zz_Mi l yX7_judge wsX7_judge zrm7_judge D (tysC cy) (wC ad cy) nwC [.ref (ad 0)] σ Qp :=
  zz_Mi.of zz_nwC (wC_ad ad cy) (by decide +kernel) rfl ⟨rfl, rfl⟩ (Nat.le_of_ble_eq_true rfl) (fun p e s m args below meth c A QW K hret => zu7_judge_0 K  hret h)
theorem zin_X7_undo_X7 : ∀ w ∈ wsX70, w ∈ wsX7_undo := fun w h => List.mem_cons_of_mem _ (List.mem_append_left _ (List.mem_append_left _ (List.mem_append_right _ h)))
theorem zlk_X7_undo_1 : Cond.fieldLink RX7 54 "SolidsRolled" "history" "LSolidsRolled$History;" ∈ wsX7_undo := List.mem_of_getElem? (i := 1) rfl
theorem zin_X7_undo_X0 : ∀ w ∈ wsX00, w ∈ wsX7_undo := fun w h => List.mem_cons_of_mem _ (List.mem_append_left _ (List.mem_append_right _ h))
theorem zlk_X7_undo_2 : Cond.fieldLink RX7 214 "SolidsRolled$History" "size" "I" ∈ wsX7_undo := List.mem_of_getElem? (i := 2) rfl
theorem zlk_X7_undo_3 : Cond.fieldLink RX7 26 "SolidsRolled" "world" "LSolidsRolled$World;" ∈ wsX7_undo := List.mem_of_getElem? (i := 3) rfl
theorem zdsC_yX0_bringBack_v : yX0_bringBack.cls = RX0 ∧ yX0_bringBack.cls ≠ "java/lang/invoke/MethodHandle" ∧ yX0_bringBack.cls ≠ "java/lang/invoke/VarHandle" ∧ (parseMethodDescriptor yX0_bringBack.desc).map (fun d => d.parameters.length) = some 1 := by decide +kernel
abbrev zrm7_undo : Room := { frames := 2, cells := 0, slots := 0, locals := 61 }
set_option maxHeartbeats 4000000 in
set_option maxRecDepth 100000 in
theorem zu7_undo_0 {p : Program} {l : Launch} {e : Env} {s : State} {m : MethodId} {args : Array Value} {below : List Frame} {meth : Method} {c : Code} {Q : State → Prop} {D : va_G} {A : Nat → Prop} {ad : Nat → Nat} {cy : Nat → ClassId}  {σ : zz_St} (K : zz_K p s m args c cX7_undo 1 RX7 wsX7_undo D (tysC cy) A (wC ad cy) nwC) {Qp : Int32 → zz_St → Prop} (hret : ∀ (r : Int32) (σ2 : zz_St), narrow .int (.int r) = .int r → Qp r σ2 → ∀ (pc : Nat) (lv : List (Nat × Value)), decode cX7_undo pc = .ok (.ireturn, 1) → zz_G p l e zrm7_undo s m args below meth c Q D A (wC ad cy) 1 pc lv [.int r] σ2) (h : zq7_undo σ Qp) : zz_G p l e zrm7_undo s m args below meth c Q D A (wC ad cy) 1 0 [(0, .ref (ad 0))] [] σ := by
  unfold zq7_undo at h
  refine zz_aload_n K 0 dX7_undo_0 rfl rfl ?_
  refine zg7_5_0 K zin_X7_undo_X7 zlk_X7_undo_1 dX7_undo_1 ?_
  refine zg0_3_0 K zin_X7_undo_X0 zlk_X7_undo_2 dX7_undo_4 ?_
  refine zz_if_ne K 17 dX7_undo_7 rfl (fun c5 => ?_) (fun c5 => ?_)
  · have h := (And.left h) c5
    refine zz_aload_n K 0 dX7_undo_17 rfl rfl ?_
    refine zg7_5_0 K zin_X7_undo_X7 zlk_X7_undo_1 dX7_undo_18 ?_
    refine zz_aload_n K 0 dX7_undo_21 rfl rfl ?_
    refine zg7_0_0 K zin_X7_undo_X7 zlk_X7_undo_3 dX7_undo_22 ?_
    refine zz_callVv K zz_nwC [.ref (ad 1)] (zc0_bringBack l D ad cy  σ _  h) gX7_undo_X0_bringBack rfl ⟨rfl, rfl⟩ zdsC_yX0_bringBack_v ⟨Nat.le_of_ble_eq_true rfl, Nat.le_of_ble_eq_true rfl⟩ (wC_at_5 ad cy σ) rfl rfl rfl rfl (Nat.le_of_ble_eq_true rfl) dX7_undo_25 (fun g6 h => ?_)
    refine zz_aload_n K 0 dX7_undo_28 rfl rfl ?_
    refine zg7_5_0 K zin_X7_undo_X7 zlk_X7_undo_1 dX7_undo_29 ?_
    refine zg0_3_0 K zin_X7_undo_X0 zlk_X7_undo_2 dX7_undo_32 ?_
    exact hret _ _ rfl h _ _ dX7_undo_35
  · have h := (And.right h) c5
    refine zz_aload_n K 0 dX7_undo_10 rfl rfl ?_
    refine zz_bipush K dX7_undo_11 zcCb_m3 ?_
    refine zz_callVi K zz_nwC [.int (-3 : Int32)] (zc7_refuse l D ad cy (-3 : Int32) σ _  h) gX7_undo_X7_refuse rfl ⟨rfl, rfl⟩ zdsC_yX7_refuse_v ⟨Nat.le_of_ble_eq_true rfl, Nat.le_of_ble_eq_true rfl⟩ (wC_at_0 ad cy σ) rfl rfl rfl rfl (Nat.le_of_ble_eq_true rfl) dX7_undo_13 (fun r7 g8 h => ?_)
    exact hret _ _ rfl h _ _ dX7_undo_16
set_option maxRecDepth 100000 in
theorem zc7_undo (l : Launch) (D : va_G) (ad : Nat → Nat) (cy : Nat → ClassId)  (σ : zz_St) (Qp : Int32 → zz_St → Prop) (h : zq7_undo σ Qp) : zz_Mi l yX7_undo wsX7_undo zrm7_undo D (tysC cy) (wC ad cy) nwC [.ref (ad 0)] σ Qp :=
  zz_Mi.of zz_nwC (wC_ad ad cy) (by decide +kernel) rfl ⟨rfl, rfl⟩ (Nat.le_of_ble_eq_true rfl) (fun p e s m args below meth c A QW K hret => zu7_undo_0 K  hret h)
theorem zin_X7_reached_X7 : ∀ w ∈ wsX70, w ∈ wsX7_reached := fun w h => List.mem_cons_of_mem _ (List.mem_append_left _ (List.mem_append_left _ (List.mem_append_left _ (List.mem_append_right _ h))))
theorem zlk_X7_reached_1 : Cond.fieldLink RX7 26 "SolidsRolled" "world" "LSolidsRolled$World;" ∈ wsX7_reached := List.mem_of_getElem? (i := 1) rfl
theorem zlk_X7_reached_2 : Cond.fieldLink RX7 47 "SolidsRolled" "search" "LSolidsRolled$Search;" ∈ wsX7_reached := List.mem_of_getElem? (i := 2) rfl
theorem zin_X7_reached_X4 : ∀ w ∈ wsX40, w ∈ wsX7_reached := fun w h => List.mem_cons_of_mem _ (List.mem_append_left _ (List.mem_append_left _ (List.mem_append_right _ h)))
theorem zlk_X7_reached_3 : Cond.fieldLink RX7 225 "SolidsRolled$Search" "size" "I" ∈ wsX7_reached := List.mem_of_getElem? (i := 3) rfl
theorem zdsC_yX4_farthest_v : yX4_farthest.cls = RX4 ∧ yX4_farthest.cls ≠ "java/lang/invoke/MethodHandle" ∧ yX4_farthest.cls ≠ "java/lang/invoke/VarHandle" ∧ (parseMethodDescriptor yX4_farthest.desc).map (fun d => d.parameters.length) = some 0 := by decide +kernel
theorem zdsC_yX4_countPlaces_v : yX4_countPlaces.cls = RX4 ∧ yX4_countPlaces.cls ≠ "java/lang/invoke/MethodHandle" ∧ yX4_countPlaces.cls ≠ "java/lang/invoke/VarHandle" ∧ (parseMethodDescriptor yX4_countPlaces.desc).map (fun d => d.parameters.length) = some 0 := by decide +kernel
theorem zdsC_yX4_hasEven_v : yX4_hasEven.cls = RX4 ∧ yX4_hasEven.cls ≠ "java/lang/invoke/MethodHandle" ∧ yX4_hasEven.cls ≠ "java/lang/invoke/VarHandle" ∧ (parseMethodDescriptor yX4_hasEven.desc).map (fun d => d.parameters.length) = some 1 := by decide +kernel
abbrev zrm7_reached : Room := { frames := 6, cells := 0, slots := 0, locals := 149 }
set_option maxHeartbeats 4000000 in
set_option maxRecDepth 100000 in
theorem zu7_reached_9 {p : Program} {l : Launch} {e : Env} {s : State} {m : MethodId} {args : Array Value} {below : List Frame} {meth : Method} {c : Code} {Q : State → Prop} {D : va_G} {A : Nat → Prop} {ad : Nat → Nat} {cy : Nat → ClassId}  {σ : zz_St} (K : zz_K p s m args c cX7_reached 2 RX7 wsX7_reached D (tysC cy) A (wC ad cy) nwC) {Qp : Int32 → zz_St → Prop} (hret : ∀ (r : Int32) (σ2 : zz_St), narrow .int (.int r) = .int r → Qp r σ2 → ∀ (pc : Nat) (lv : List (Nat × Value)), decode cX7_reached pc = .ok (.ireturn, 1) → zz_G p l e zrm7_reached s m args below meth c Q D A (wC ad cy) 2 pc lv [.int r] σ2) (h : zq7_reached_9 σ Qp) : zz_G p l e zrm7_reached s m args below meth c Q D A (wC ad cy) 2 9 [(0, .ref (ad 0))] [] σ := by
  unfold zq7_reached_9 at h
  refine zz_aload_n K 0 dX7_reached_9 rfl rfl ?_
  refine zz_bipush K dX7_reached_10 zcCb_m2 ?_
  refine zz_callVi K zz_nwC [.int (-2 : Int32)] (zc7_refuse l D ad cy (-2 : Int32) σ _  h) gX7_reached_X7_refuse rfl ⟨rfl, rfl⟩ zdsC_yX7_refuse_v ⟨Nat.le_of_ble_eq_true rfl, Nat.le_of_ble_eq_true rfl⟩ (wC_at_0 ad cy σ) rfl rfl rfl rfl (Nat.le_of_ble_eq_true rfl) dX7_reached_12 (fun r19 g20 h => ?_)
  exact hret _ _ rfl h _ _ dX7_reached_15
set_option maxHeartbeats 4000000 in
set_option maxRecDepth 100000 in
theorem zu7_reached_0 {p : Program} {l : Launch} {e : Env} {s : State} {m : MethodId} {args : Array Value} {below : List Frame} {meth : Method} {c : Code} {Q : State → Prop} {D : va_G} {A : Nat → Prop} {ad : Nat → Nat} {cy : Nat → ClassId} {v1 : Int32} {σ : zz_St} (K : zz_K p s m args c cX7_reached 2 RX7 wsX7_reached D (tysC cy) A (wC ad cy) nwC) {Qp : Int32 → zz_St → Prop} (hret : ∀ (r : Int32) (σ2 : zz_St), narrow .int (.int r) = .int r → Qp r σ2 → ∀ (pc : Nat) (lv : List (Nat × Value)), decode cX7_reached pc = .ok (.ireturn, 1) → zz_G p l e zrm7_reached s m args below meth c Q D A (wC ad cy) 2 pc lv [.int r] σ2) (h : zq7_reached v1 σ Qp) : zz_G p l e zrm7_reached s m args below meth c Q D A (wC ad cy) 2 0 [(0, .ref (ad 0)), (1, .int v1)] [] σ := by
  unfold zq7_reached at h
  refine zz_iload_n K 1 dX7_reached_0 rfl rfl ?_
  refine zz_if_lt K 9 dX7_reached_1 rfl (fun c21 => ?_) (fun c21 => ?_)
  · have h := (And.left h) c21
    refine zz_sub [0] [(0, .ref (ad 0))] rfl ?_
    exact zu7_reached_9 K hret h
  · have h := (And.right h) c21
    refine zz_iload_n K 1 dX7_reached_4 rfl rfl ?_
    refine zz_iconst K dX7_reached_5 zcCi_3 ?_
    refine zz_icmp_le K 16 dX7_reached_6 rfl (fun c22 => ?_) (fun c22 => ?_)
    · have h := (And.left h) c22
      refine zz_aload_n K 0 dX7_reached_16 rfl rfl ?_
      refine zg7_0_0 K zin_X7_reached_X7 zlk_X7_reached_1 dX7_reached_17 ?_
      refine zz_callVi1 K zz_nwC [] (zc6_isNone l D ad cy  σ _  h) gX7_reached_X6_isNone rfl ⟨rfl, rfl⟩ zdsC_yX6_isNone_v ⟨Nat.le_of_ble_eq_true rfl, Nat.le_of_ble_eq_true rfl⟩ (wC_at_1 ad cy σ) rfl rfl rfl rfl (Nat.le_of_ble_eq_true rfl) dX7_reached_20 (fun r23 h => ?_)
      refine zz_if_eq K 33 dX7_reached_23 rfl (fun c24 => ?_) (fun c24 => ?_)
      · have h := (And.left h) c24
        refine zz_iload_n K 1 dX7_reached_33 rfl rfl ?_
        refine zz_iconst K dX7_reached_34 zcCi_2 ?_
        refine zz_icmp_ne K 58 dX7_reached_35 rfl (fun c25 => ?_) (fun c25 => ?_)
        · have h := (And.left h) c25
          refine zz_aload_n K 0 dX7_reached_58 rfl rfl ?_
          refine zg7_4_0 K zin_X7_reached_X7 zlk_X7_reached_2 dX7_reached_59 ?_
          refine zz_aload_n K 0 dX7_reached_62 rfl rfl ?_
          refine zg7_0_0 K zin_X7_reached_X7 zlk_X7_reached_1 dX7_reached_63 ?_
          refine zz_callVv K zz_nwC [.ref (ad 1)] (zc4_floodAll l D ad cy  σ _  h) gX7_reached_X4_floodAll rfl ⟨rfl, rfl⟩ zdsC_yX4_floodAll_v ⟨Nat.le_of_ble_eq_true rfl, Nat.le_of_ble_eq_true rfl⟩ (wC_at_4 ad cy σ) rfl rfl rfl rfl (Nat.le_of_ble_eq_true rfl) dX7_reached_66 (fun g26 h => ?_)
          refine zz_iload_n K 1 dX7_reached_69 rfl rfl ?_
          refine zz_if_ne K 81 dX7_reached_70 rfl (fun c27 => ?_) (fun c27 => ?_)
          · have h := (And.left h) c27
            refine zz_iload_n K 1 dX7_reached_81 rfl rfl ?_
            refine zz_iconst K dX7_reached_82 zcCi_1 ?_
            refine zz_icmp_ne K 96 dX7_reached_83 rfl (fun c28 => ?_) (fun c28 => ?_)
            · have h := (And.left h) c28
              refine zz_aload_n K 0 dX7_reached_96 rfl rfl ?_
              refine zg7_4_0 K zin_X7_reached_X7 zlk_X7_reached_2 dX7_reached_97 ?_
              refine zz_callVi1 K zz_nwC [] (zc4_farthest l D ad cy  g26 _  h) gX7_reached_X4_farthest rfl ⟨rfl, rfl⟩ zdsC_yX4_farthest_v ⟨Nat.le_of_ble_eq_true rfl, Nat.le_of_ble_eq_true rfl⟩ (wC_at_4 ad cy g26) rfl rfl rfl rfl (Nat.le_of_ble_eq_true rfl) dX7_reached_100 (fun r29 h => ?_)
              exact hret _ _ rfl h _ _ dX7_reached_103
            · have h := (And.right h) c28
              refine zz_aload_n K 0 dX7_reached_86 rfl rfl ?_
              refine zg7_4_0 K zin_X7_reached_X7 zlk_X7_reached_2 dX7_reached_87 ?_
              refine zz_callVi K zz_nwC [] (zc4_countPlaces l D ad cy  g26 _  h) gX7_reached_X4_countPlaces rfl ⟨rfl, rfl⟩ zdsC_yX4_countPlaces_v ⟨Nat.le_of_ble_eq_true rfl, Nat.le_of_ble_eq_true rfl⟩ (wC_at_4 ad cy g26) rfl rfl rfl rfl (Nat.le_of_ble_eq_true rfl) dX7_reached_90 (fun r30 g31 h => ?_)
              refine zz_goto K 103 dX7_reached_93 rfl ?_
              exact hret _ _ rfl h _ _ dX7_reached_103
          · have h := (And.right h) c27
            refine zz_aload_n K 0 dX7_reached_73 rfl rfl ?_
            refine zg7_4_0 K zin_X7_reached_X7 zlk_X7_reached_2 dX7_reached_74 ?_
            refine zg4_7_0 K zin_X7_reached_X4 zlk_X7_reached_3 dX7_reached_77 ?_
            exact hret _ _ rfl h _ _ dX7_reached_80
        · have h := (And.right h) c25
          refine zz_aload_n K 0 dX7_reached_38 rfl rfl ?_
          refine zg7_4_0 K zin_X7_reached_X7 zlk_X7_reached_2 dX7_reached_39 ?_
          refine zz_aload_n K 0 dX7_reached_42 rfl rfl ?_
          refine zg7_0_0 K zin_X7_reached_X7 zlk_X7_reached_1 dX7_reached_43 ?_
          refine zz_callVi K zz_nwC [.ref (ad 1)] (zc4_hasEven l D ad cy  σ _  h) gX7_reached_X4_hasEven rfl ⟨rfl, rfl⟩ zdsC_yX4_hasEven_v ⟨Nat.le_of_ble_eq_true rfl, Nat.le_of_ble_eq_true rfl⟩ (wC_at_4 ad cy σ) rfl rfl rfl rfl (Nat.le_of_ble_eq_true rfl) dX7_reached_46 (fun r32 g33 h => ?_)
          refine zz_if_eq K 56 dX7_reached_49 rfl (fun c34 => ?_) (fun c34 => ?_)
          · have h := (And.left h) c34
            refine zz_iconst K dX7_reached_56 zcCi_0 ?_
            exact hret _ _ rfl h _ _ dX7_reached_57
          · have h := (And.right h) c34
            refine zz_iconst K dX7_reached_52 zcCi_1 ?_
            refine zz_goto K 57 dX7_reached_53 rfl ?_
            exact hret _ _ rfl h _ _ dX7_reached_57
      · have h := (And.right h) c24
        refine zz_aload_n K 0 dX7_reached_26 rfl rfl ?_
        refine zz_bipush K dX7_reached_27 zcCb_m3 ?_
        refine zz_callVi K zz_nwC [.int (-3 : Int32)] (zc7_refuse l D ad cy (-3 : Int32) σ _  h) gX7_reached_X7_refuse rfl ⟨rfl, rfl⟩ zdsC_yX7_refuse_v ⟨Nat.le_of_ble_eq_true rfl, Nat.le_of_ble_eq_true rfl⟩ (wC_at_0 ad cy σ) rfl rfl rfl rfl (Nat.le_of_ble_eq_true rfl) dX7_reached_29 (fun r35 g36 h => ?_)
        exact hret _ _ rfl h _ _ dX7_reached_32
    · have h := (And.right h) c22
      refine zz_sub [0] [(0, .ref (ad 0))] rfl ?_
      exact zu7_reached_9 K hret h
set_option maxRecDepth 100000 in
theorem zc7_reached (l : Launch) (D : va_G) (ad : Nat → Nat) (cy : Nat → ClassId) (v1 : Int32) (σ : zz_St) (Qp : Int32 → zz_St → Prop) (h : zq7_reached v1 σ Qp) : zz_Mi l yX7_reached wsX7_reached zrm7_reached D (tysC cy) (wC ad cy) nwC [.ref (ad 0), .int v1] σ Qp :=
  zz_Mi.of zz_nwC (wC_ad ad cy) (by decide +kernel) rfl ⟨rfl, rfl⟩ (Nat.le_of_ble_eq_true rfl) (fun p e s m args below meth c A QW K hret => zu7_reached_0 K  hret h)
theorem zin_X7_isFace_X7 : ∀ w ∈ wsX70, w ∈ wsX7_isFace := fun w h => List.mem_cons_of_mem _ (List.mem_append_left _ (List.mem_append_left _ (List.mem_append_right _ h)))
theorem zlk_X7_isFace_1 : Cond.fieldLink RX7 26 "SolidsRolled" "world" "LSolidsRolled$World;" ∈ wsX7_isFace := List.mem_of_getElem? (i := 1) rfl
theorem zin_X7_isFace_X5 : ∀ w ∈ wsX50, w ∈ wsX7_isFace := fun w h => List.mem_cons_of_mem _ (List.mem_append_left _ (List.mem_append_right _ h))
theorem zlk_X7_isFace_2 : Cond.fieldLink RX7 151 "SolidsRolled$Stances" "sides" "I" ∈ wsX7_isFace := List.mem_of_getElem? (i := 2) rfl
abbrev zrm7_isFace : Room := { frames := 2, cells := 0, slots := 0, locals := 40 }
set_option maxHeartbeats 4000000 in
set_option maxRecDepth 100000 in
theorem zu7_isFace_0 {p : Program} {l : Launch} {e : Env} {s : State} {m : MethodId} {args : Array Value} {below : List Frame} {meth : Method} {c : Code} {Q : State → Prop} {D : va_G} {A : Nat → Prop} {ad : Nat → Nat} {cy : Nat → ClassId} {v1 : Int32} {σ : zz_St} (K : zz_K p s m args c cX7_isFace 2 RX7 wsX7_isFace D (tysC cy) A (wC ad cy) nwC) {Qp : Int32 → Prop} (hret : ∀ (r : Int32), narrow .boolean (.int r) = .int r → Qp r → ∀ (pc : Nat) (lv : List (Nat × Value)), decode cX7_isFace pc = .ok (.ireturn, 1) → zz_G p l e zrm7_isFace s m args below meth c Q D A (wC ad cy) 2 pc lv [.int r] σ) (h : zq7_isFace v1 σ Qp) : zz_G p l e zrm7_isFace s m args below meth c Q D A (wC ad cy) 2 0 [(0, .ref (ad 0)), (1, .int v1)] [] σ := by
  unfold zq7_isFace at h
  refine zz_iload_n K 1 dX7_isFace_0 rfl rfl ?_
  refine zz_if_lt K 22 dX7_isFace_1 rfl (fun c4 => ?_) (fun c4 => ?_)
  · have h := (And.left h) c4
    refine zz_iconst K dX7_isFace_22 zcCi_0 ?_
    exact hret _ rfl h _ _ dX7_isFace_23
  · have h := (And.right h) c4
    refine zz_iload_n K 1 dX7_isFace_4 rfl rfl ?_
    refine zz_aload_n K 0 dX7_isFace_5 rfl rfl ?_
    refine zg7_0_0 K zin_X7_isFace_X7 zlk_X7_isFace_1 dX7_isFace_6 ?_
    refine zz_callVr1 K zz_nwC [] (zc6_stances l D ad cy  σ _  h) gX7_isFace_X6_stances rfl ⟨rfl, rfl⟩ zdsC_yX6_stances_v ⟨Nat.le_of_ble_eq_true rfl, Nat.le_of_ble_eq_true rfl⟩ (wC_at_1 ad cy σ) rfl rfl rfl rfl (Nat.le_of_ble_eq_true rfl) dX7_isFace_9 (fun r5 h => ?_)
    obtain ⟨hrr5, h⟩ := h
    refine zg5_0_ K hrr5 zin_X7_isFace_X5 zlk_X7_isFace_2 dX7_isFace_12 ?_
    refine zz_icmp_ge K 22 dX7_isFace_15 rfl (fun c6 => ?_) (fun c6 => ?_)
    · have h := (And.left h) c6
      refine zz_iconst K dX7_isFace_22 zcCi_0 ?_
      exact hret _ rfl h _ _ dX7_isFace_23
    · have h := (And.right h) c6
      refine zz_iconst K dX7_isFace_18 zcCi_1 ?_
      refine zz_goto K 23 dX7_isFace_19 rfl ?_
      exact hret _ rfl h _ _ dX7_isFace_23
set_option maxRecDepth 100000 in
theorem zc7_isFace (l : Launch) (D : va_G) (ad : Nat → Nat) (cy : Nat → ClassId) (v1 : Int32) (σ : zz_St) (Qp : Int32 → Prop) (h : zq7_isFace v1 σ Qp) : zz_Mi l yX7_isFace wsX7_isFace zrm7_isFace D (tysC cy) (wC ad cy) nwC [.ref (ad 0), .int v1] σ (fun r σ2 => σ2 = σ ∧ Qp r) :=
  zz_Mi.of zz_nwC (wC_ad ad cy) (by decide +kernel) rfl ⟨rfl, rfl⟩ (Nat.le_of_ble_eq_true rfl) (fun p e s m args below meth c A QW K hret => zu7_isFace_0 K  (fun r hn hq pc lv hd => hret r σ hn ⟨rfl, hq⟩ pc lv hd) h)
theorem zin_X7_isGoal_X7 : ∀ w ∈ wsX70, w ∈ wsX7_isGoal := fun w h => List.mem_cons_of_mem _ (List.mem_append_left _ (List.mem_append_left _ (List.mem_append_right _ h)))
theorem zlk_X7_isGoal_1 : Cond.fieldLink RX7 26 "SolidsRolled" "world" "LSolidsRolled$World;" ∈ wsX7_isGoal := List.mem_of_getElem? (i := 1) rfl
theorem zin_X7_isGoal_X6 : ∀ w ∈ wsX60, w ∈ wsX7_isGoal := fun w h => List.mem_cons_of_mem _ (List.mem_append_left _ (List.mem_append_right _ h))
theorem zlk_X7_isGoal_2 : Cond.fieldLink RX7 163 "SolidsRolled$World" "kind" "I" ∈ wsX7_isGoal := List.mem_of_getElem? (i := 2) rfl
theorem zdsC_yX7_isFace_v : yX7_isFace.cls = RX7 ∧ yX7_isFace.cls ≠ "java/lang/invoke/MethodHandle" ∧ yX7_isFace.cls ≠ "java/lang/invoke/VarHandle" ∧ (parseMethodDescriptor yX7_isFace.desc).map (fun d => d.parameters.length) = some 1 := by decide +kernel
abbrev zrm7_isGoal : Room := { frames := 3, cells := 0, slots := 0, locals := 61 }
set_option maxHeartbeats 4000000 in
set_option maxRecDepth 100000 in
theorem zu7_isGoal_0 {p : Program} {l : Launch} {e : Env} {s : State} {m : MethodId} {args : Array Value} {below : List Frame} {meth : Method} {c : Code} {Q : State → Prop} {D : va_G} {A : Nat → Prop} {ad : Nat → Nat} {cy : Nat → ClassId} {v1 : Int32} {v2 : Int32} {σ : zz_St} (K : zz_K p s m args c cX7_isGoal 3 RX7 wsX7_isGoal D (tysC cy) A (wC ad cy) nwC) {Qp : Int32 → Prop} (hret : ∀ (r : Int32), narrow .boolean (.int r) = .int r → Qp r → ∀ (pc : Nat) (lv : List (Nat × Value)), decode cX7_isGoal pc = .ok (.ireturn, 1) → zz_G p l e zrm7_isGoal s m args below meth c Q D A (wC ad cy) 3 pc lv [.int r] σ) (h : zq7_isGoal v1 v2 σ Qp) : zz_G p l e zrm7_isGoal s m args below meth c Q D A (wC ad cy) 3 0 [(0, .ref (ad 0)), (1, .int v1), (2, .int v2)] [] σ := by
  unfold zq7_isGoal at h
  refine zz_aload_n K 0 dX7_isGoal_0 rfl rfl ?_
  refine zg7_0_0 K zin_X7_isGoal_X7 zlk_X7_isGoal_1 dX7_isGoal_1 ?_
  refine zz_aload_n K 0 dX7_isGoal_4 rfl rfl ?_
  refine zg7_0_0 K zin_X7_isGoal_X7 zlk_X7_isGoal_1 dX7_isGoal_5 ?_
  refine zg6_6_0 K zin_X7_isGoal_X6 zlk_X7_isGoal_2 dX7_isGoal_8 ?_
  refine zz_iload_n K 1 dX7_isGoal_11 rfl rfl ?_
  refine zz_callVi1 K zz_nwC [.int ((σ).1 6), .int v1] (zc6_hasPlace l D ad cy ((σ).1 6) v1 σ _  h) gX7_isGoal_X6_hasPlace rfl ⟨rfl, rfl⟩ zdsC_yX6_hasPlace_v ⟨Nat.le_of_ble_eq_true rfl, Nat.le_of_ble_eq_true rfl⟩ (wC_at_1 ad cy σ) rfl rfl rfl rfl (Nat.le_of_ble_eq_true rfl) dX7_isGoal_12 (fun r6 h => ?_)
  refine zz_if_eq K 35 dX7_isGoal_15 rfl (fun c7 => ?_) (fun c7 => ?_)
  · have h := (And.left h) c7
    refine zz_iconst K dX7_isGoal_35 zcCi_0 ?_
    exact hret _ rfl h _ _ dX7_isGoal_36
  · have h := (And.right h) c7
    refine zz_iload_n K 2 dX7_isGoal_18 rfl rfl ?_
    refine zz_iconst K dX7_isGoal_19 zcCi_m1 ?_
    refine zz_icmp_eq K 31 dX7_isGoal_20 rfl (fun c8 => ?_) (fun c8 => ?_)
    · have h := (And.left h) c8
      refine zz_iconst K dX7_isGoal_31 zcCi_1 ?_
      refine zz_goto K 36 dX7_isGoal_32 rfl ?_
      exact hret _ rfl h _ _ dX7_isGoal_36
    · have h := (And.right h) c8
      refine zz_aload_n K 0 dX7_isGoal_23 rfl rfl ?_
      refine zz_iload_n K 2 dX7_isGoal_24 rfl rfl ?_
      refine zz_callVi1 K zz_nwC [.int v2] (zc7_isFace l D ad cy v2 σ _  h) gX7_isGoal_X7_isFace rfl ⟨rfl, rfl⟩ zdsC_yX7_isFace_v ⟨Nat.le_of_ble_eq_true rfl, Nat.le_of_ble_eq_true rfl⟩ (wC_at_0 ad cy σ) rfl rfl rfl rfl (Nat.le_of_ble_eq_true rfl) dX7_isGoal_25 (fun r9 h => ?_)
      refine zz_if_eq K 35 dX7_isGoal_28 rfl (fun c10 => ?_) (fun c10 => ?_)
      · have h := (And.left h) c10
        refine zz_iconst K dX7_isGoal_35 zcCi_0 ?_
        exact hret _ rfl h _ _ dX7_isGoal_36
      · have h := (And.right h) c10
        refine zz_iconst K dX7_isGoal_31 zcCi_1 ?_
        refine zz_goto K 36 dX7_isGoal_32 rfl ?_
        exact hret _ rfl h _ _ dX7_isGoal_36
set_option maxRecDepth 100000 in
theorem zc7_isGoal (l : Launch) (D : va_G) (ad : Nat → Nat) (cy : Nat → ClassId) (v1 : Int32) (v2 : Int32) (σ : zz_St) (Qp : Int32 → Prop) (h : zq7_isGoal v1 v2 σ Qp) : zz_Mi l yX7_isGoal wsX7_isGoal zrm7_isGoal D (tysC cy) (wC ad cy) nwC [.ref (ad 0), .int v1, .int v2] σ (fun r σ2 => σ2 = σ ∧ Qp r) :=
  zz_Mi.of zz_nwC (wC_ad ad cy) (by decide +kernel) rfl ⟨rfl, rfl⟩ (Nat.le_of_ble_eq_true rfl) (fun p e s m args below meth c A QW K hret => zu7_isGoal_0 K  (fun r hn hq pc lv hd => hret r σ hn ⟨rfl, hq⟩ pc lv hd) h)
theorem zin_X7_soonest_X7 : ∀ w ∈ wsX70, w ∈ wsX7_soonest := fun w h => List.mem_cons_of_mem _ (List.mem_append_left _ (List.mem_append_left _ (List.mem_append_left _ (List.mem_append_right _ h))))
theorem zlk_X7_soonest_1 : Cond.fieldLink RX7 26 "SolidsRolled" "world" "LSolidsRolled$World;" ∈ wsX7_soonest := List.mem_of_getElem? (i := 1) rfl
theorem zlk_X7_soonest_2 : Cond.fieldLink RX7 47 "SolidsRolled" "search" "LSolidsRolled$Search;" ∈ wsX7_soonest := List.mem_of_getElem? (i := 2) rfl
theorem zin_X7_soonest_X4 : ∀ w ∈ wsX40, w ∈ wsX7_soonest := fun w h => List.mem_cons_of_mem _ (List.mem_append_left _ (List.mem_append_left _ (List.mem_append_right _ h)))
theorem zlk_X7_soonest_3 : Cond.fieldLink RX7 239 "SolidsRolled$Search" "steps" "[I" ∈ wsX7_soonest := List.mem_of_getElem? (i := 3) rfl
theorem zdsC_yX7_isGoal_v : yX7_isGoal.cls = RX7 ∧ yX7_isGoal.cls ≠ "java/lang/invoke/MethodHandle" ∧ yX7_isGoal.cls ≠ "java/lang/invoke/VarHandle" ∧ (parseMethodDescriptor yX7_isGoal.desc).map (fun d => d.parameters.length) = some 2 := by decide +kernel
abbrev zrm7_soonest : Room := { frames := 4, cells := 0, slots := 0, locals := 104 }
set_option maxHeartbeats 4000000 in
set_option maxRecDepth 100000 in
theorem zu7_soonest_0 {p : Program} {l : Launch} {e : Env} {s : State} {m : MethodId} {args : Array Value} {below : List Frame} {meth : Method} {c : Code} {Q : State → Prop} {D : va_G} {A : Nat → Prop} {ad : Nat → Nat} {cy : Nat → ClassId} {v1 : Int32} {v2 : Int32} {σ : zz_St} (K : zz_K p s m args c cX7_soonest 4 RX7 wsX7_soonest D (tysC cy) A (wC ad cy) nwC) {Qp : Int32 → zz_St → Prop} (hret : ∀ (r : Int32) (σ2 : zz_St), narrow .int (.int r) = .int r → Qp r σ2 → ∀ (pc : Nat) (lv : List (Nat × Value)), decode cX7_soonest pc = .ok (.ireturn, 1) → zz_G p l e zrm7_soonest s m args below meth c Q D A (wC ad cy) 4 pc lv [.int r] σ2) (h : zq7_soonest v1 v2 σ Qp) : zz_G p l e zrm7_soonest s m args below meth c Q D A (wC ad cy) 4 0 [(0, .ref (ad 0)), (1, .int v1), (2, .int v2)] [] σ := by
  unfold zq7_soonest at h
  refine zz_aload_n K 0 dX7_soonest_0 rfl rfl ?_
  refine zz_iload_n K 1 dX7_soonest_1 rfl rfl ?_
  refine zz_iload_n K 2 dX7_soonest_2 rfl rfl ?_
  refine zz_callVi1 K zz_nwC [.int v1, .int v2] (zc7_isGoal l D ad cy v1 v2 σ _  h) gX7_soonest_X7_isGoal rfl ⟨rfl, rfl⟩ zdsC_yX7_isGoal_v ⟨Nat.le_of_ble_eq_true rfl, Nat.le_of_ble_eq_true rfl⟩ (wC_at_0 ad cy σ) rfl rfl rfl rfl (Nat.le_of_ble_eq_true rfl) dX7_soonest_3 (fun r12 h => ?_)
  refine zz_if_ne K 15 dX7_soonest_6 rfl (fun c13 => ?_) (fun c13 => ?_)
  · have h := (And.left h) c13
    refine zz_aload_n K 0 dX7_soonest_15 rfl rfl ?_
    refine zg7_0_0 K zin_X7_soonest_X7 zlk_X7_soonest_1 dX7_soonest_16 ?_
    refine zz_callVi1 K zz_nwC [] (zc6_isNone l D ad cy  σ _  h) gX7_soonest_X6_isNone rfl ⟨rfl, rfl⟩ zdsC_yX6_isNone_v ⟨Nat.le_of_ble_eq_true rfl, Nat.le_of_ble_eq_true rfl⟩ (wC_at_1 ad cy σ) rfl rfl rfl rfl (Nat.le_of_ble_eq_true rfl) dX7_soonest_19 (fun r14 h => ?_)
    refine zz_if_eq K 32 dX7_soonest_22 rfl (fun c15 => ?_) (fun c15 => ?_)
    · have h := (And.left h) c15
      refine zz_aload_n K 0 dX7_soonest_32 rfl rfl ?_
      refine zg7_4_0 K zin_X7_soonest_X7 zlk_X7_soonest_2 dX7_soonest_33 ?_
      refine zz_aload_n K 0 dX7_soonest_36 rfl rfl ?_
      refine zg7_0_0 K zin_X7_soonest_X7 zlk_X7_soonest_1 dX7_soonest_37 ?_
      refine zz_iload_n K 1 dX7_soonest_40 rfl rfl ?_
      refine zz_iload_n K 2 dX7_soonest_41 rfl rfl ?_
      refine zz_callVi K zz_nwC [.ref (ad 1), .int v1, .int v2] (zc4_floodTo l D ad cy v1 v2 σ _  h) gX7_soonest_X4_floodTo rfl ⟨rfl, rfl⟩ zdsC_yX4_floodTo_v ⟨Nat.le_of_ble_eq_true rfl, Nat.le_of_ble_eq_true rfl⟩ (wC_at_4 ad cy σ) rfl rfl rfl rfl (Nat.le_of_ble_eq_true rfl) dX7_soonest_42 (fun r16 g17 h => ?_)
      refine zz_istore_n K [(3, .int r16), (0, .ref (ad 0)), (1, .int v1), (2, .int v2)] dX7_soonest_45 rfl (by decide) rfl ?_
      refine zz_iload_n K 0 dX7_soonest_46 rfl rfl ?_
      refine zz_if_ge K 55 dX7_soonest_47 rfl (fun c18 => ?_) (fun c18 => ?_)
      · have h := (And.left h) c18
        refine zz_aload_n K 1 dX7_soonest_55 rfl rfl ?_
        refine zg7_4_0 K zin_X7_soonest_X7 zlk_X7_soonest_2 dX7_soonest_56 ?_
        refine zg4_0_0 K zin_X7_soonest_X4 zlk_X7_soonest_3 dX7_soonest_59 ?_
        refine zz_iload_n K 0 dX7_soonest_62 rfl rfl ?_
        obtain ⟨hin, h⟩ := h
        refine zz_iaload K 0 (wC_at_19 ad cy g17) rfl hin dX7_soonest_63 ?_
        exact hret _ _ rfl h _ _ dX7_soonest_64
      · have h := (And.right h) c18
        refine zz_bipush K dX7_soonest_50 zcCb_m9 ?_
        refine zz_goto K 64 dX7_soonest_52 rfl ?_
        exact hret _ _ rfl h _ _ dX7_soonest_64
    · have h := (And.right h) c15
      refine zz_aload_n K 0 dX7_soonest_25 rfl rfl ?_
      refine zz_bipush K dX7_soonest_26 zcCb_m3 ?_
      refine zz_callVi K zz_nwC [.int (-3 : Int32)] (zc7_refuse l D ad cy (-3 : Int32) σ _  h) gX7_soonest_X7_refuse rfl ⟨rfl, rfl⟩ zdsC_yX7_refuse_v ⟨Nat.le_of_ble_eq_true rfl, Nat.le_of_ble_eq_true rfl⟩ (wC_at_0 ad cy σ) rfl rfl rfl rfl (Nat.le_of_ble_eq_true rfl) dX7_soonest_28 (fun r19 g20 h => ?_)
      exact hret _ _ rfl h _ _ dX7_soonest_31
  · have h := (And.right h) c13
    refine zz_aload_n K 0 dX7_soonest_9 rfl rfl ?_
    refine zz_iconst K dX7_soonest_10 zcCi_m1 ?_
    refine zz_callVi K zz_nwC [.int (-1 : Int32)] (zc7_refuse l D ad cy (-1 : Int32) σ _  h) gX7_soonest_X7_refuse rfl ⟨rfl, rfl⟩ zdsC_yX7_refuse_v ⟨Nat.le_of_ble_eq_true rfl, Nat.le_of_ble_eq_true rfl⟩ (wC_at_0 ad cy σ) rfl rfl rfl rfl (Nat.le_of_ble_eq_true rfl) dX7_soonest_11 (fun r21 g22 h => ?_)
    exact hret _ _ rfl h _ _ dX7_soonest_14
set_option maxRecDepth 100000 in
theorem zc7_soonest (l : Launch) (D : va_G) (ad : Nat → Nat) (cy : Nat → ClassId) (v1 : Int32) (v2 : Int32) (σ : zz_St) (Qp : Int32 → zz_St → Prop) (h : zq7_soonest v1 v2 σ Qp) : zz_Mi l yX7_soonest wsX7_soonest zrm7_soonest D (tysC cy) (wC ad cy) nwC [.ref (ad 0), .int v1, .int v2] σ Qp :=
  zz_Mi.of zz_nwC (wC_ad ad cy) (by decide +kernel) rfl ⟨rfl, rfl⟩ (Nat.le_of_ble_eq_true rfl) (fun p e s m args below meth c A QW K hret => zu7_soonest_0 K  hret h)
theorem zin_X7_walk_X7 : ∀ w ∈ wsX70, w ∈ wsX7_walk := fun w h => List.mem_cons_of_mem _ (List.mem_append_left _ (List.mem_append_left _ (List.mem_append_left _ (List.mem_append_right _ h))))
theorem zlk_X7_walk_1 : Cond.fieldLink RX7 26 "SolidsRolled" "world" "LSolidsRolled$World;" ∈ wsX7_walk := List.mem_of_getElem? (i := 1) rfl
theorem zlk_X7_walk_2 : Cond.fieldLink RX7 47 "SolidsRolled" "search" "LSolidsRolled$Search;" ∈ wsX7_walk := List.mem_of_getElem? (i := 2) rfl
theorem zin_X7_walk_X4 : ∀ w ∈ wsX40, w ∈ wsX7_walk := fun w h => List.mem_cons_of_mem _ (List.mem_append_left _ (List.mem_append_left _ (List.mem_append_right _ h)))
theorem zlk_X7_walk_3 : Cond.fieldLink RX7 239 "SolidsRolled$Search" "steps" "[I" ∈ wsX7_walk := List.mem_of_getElem? (i := 3) rfl
theorem zdsC_yX4_wayToward_v : yX4_wayToward.cls = RX4 ∧ yX4_wayToward.cls ≠ "java/lang/invoke/MethodHandle" ∧ yX4_wayToward.cls ≠ "java/lang/invoke/VarHandle" ∧ (parseMethodDescriptor yX4_wayToward.desc).map (fun d => d.parameters.length) = some 2 := by decide +kernel
abbrev zrm7_walk : Room := { frames := 4, cells := 0, slots := 0, locals := 104 }
set_option maxHeartbeats 4000000 in
set_option maxRecDepth 100000 in
theorem zu7_walk_0 {p : Program} {l : Launch} {e : Env} {s : State} {m : MethodId} {args : Array Value} {below : List Frame} {meth : Method} {c : Code} {Q : State → Prop} {D : va_G} {A : Nat → Prop} {ad : Nat → Nat} {cy : Nat → ClassId} {v1 : Int32} {v2 : Int32} {v3 : Int32} {σ : zz_St} (K : zz_K p s m args c cX7_walk 5 RX7 wsX7_walk D (tysC cy) A (wC ad cy) nwC) {Qp : Int32 → zz_St → Prop} (hret : ∀ (r : Int32) (σ2 : zz_St), narrow .int (.int r) = .int r → Qp r σ2 → ∀ (pc : Nat) (lv : List (Nat × Value)), decode cX7_walk pc = .ok (.ireturn, 1) → zz_G p l e zrm7_walk s m args below meth c Q D A (wC ad cy) 5 pc lv [.int r] σ2) (h : zq7_walk v1 v2 v3 σ Qp) : zz_G p l e zrm7_walk s m args below meth c Q D A (wC ad cy) 5 0 [(0, .ref (ad 0)), (1, .int v1), (2, .int v2), (3, .int v3)] [] σ := by
  unfold zq7_walk at h
  refine zz_aload_n K 0 dX7_walk_0 rfl rfl ?_
  refine zz_iload_n K 1 dX7_walk_1 rfl rfl ?_
  refine zz_iload_n K 2 dX7_walk_2 rfl rfl ?_
  refine zz_callVi1 K zz_nwC [.int v1, .int v2] (zc7_isGoal l D ad cy v1 v2 σ _  h) gX7_walk_X7_isGoal rfl ⟨rfl, rfl⟩ zdsC_yX7_isGoal_v ⟨Nat.le_of_ble_eq_true rfl, Nat.le_of_ble_eq_true rfl⟩ (wC_at_0 ad cy σ) rfl rfl rfl rfl (Nat.le_of_ble_eq_true rfl) dX7_walk_3 (fun r17 h => ?_)
  refine zz_if_ne K 15 dX7_walk_6 rfl (fun c18 => ?_) (fun c18 => ?_)
  · have h := (And.left h) c18
    refine zz_iload_n K 3 dX7_walk_15 rfl rfl ?_
    refine zz_if_ge K 26 dX7_walk_16 rfl (fun c19 => ?_) (fun c19 => ?_)
    · have h := (And.left h) c19
      refine zz_aload_n K 0 dX7_walk_26 rfl rfl ?_
      refine zg7_0_0 K zin_X7_walk_X7 zlk_X7_walk_1 dX7_walk_27 ?_
      refine zz_callVi1 K zz_nwC [] (zc6_isNone l D ad cy  σ _  h) gX7_walk_X6_isNone rfl ⟨rfl, rfl⟩ zdsC_yX6_isNone_v ⟨Nat.le_of_ble_eq_true rfl, Nat.le_of_ble_eq_true rfl⟩ (wC_at_1 ad cy σ) rfl rfl rfl rfl (Nat.le_of_ble_eq_true rfl) dX7_walk_30 (fun r20 h => ?_)
      refine zz_if_eq K 43 dX7_walk_33 rfl (fun c21 => ?_) (fun c21 => ?_)
      · have h := (And.left h) c21
        refine zz_aload_n K 0 dX7_walk_43 rfl rfl ?_
        refine zg7_4_0 K zin_X7_walk_X7 zlk_X7_walk_2 dX7_walk_44 ?_
        refine zz_aload_n K 0 dX7_walk_47 rfl rfl ?_
        refine zg7_0_0 K zin_X7_walk_X7 zlk_X7_walk_1 dX7_walk_48 ?_
        refine zz_iload_n K 1 dX7_walk_51 rfl rfl ?_
        refine zz_iload_n K 2 dX7_walk_52 rfl rfl ?_
        refine zz_callVi K zz_nwC [.ref (ad 1), .int v1, .int v2] (zc4_floodTo l D ad cy v1 v2 σ _  h) gX7_walk_X4_floodTo rfl ⟨rfl, rfl⟩ zdsC_yX4_floodTo_v ⟨Nat.le_of_ble_eq_true rfl, Nat.le_of_ble_eq_true rfl⟩ (wC_at_4 ad cy σ) rfl rfl rfl rfl (Nat.le_of_ble_eq_true rfl) dX7_walk_53 (fun r22 g23 h => ?_)
        refine zz_istore K [(4, .int r22), (0, .ref (ad 0)), (1, .int v1), (2, .int v2), (3, .int v3)] dX7_walk_56 (by decide) rfl ?_
        refine zz_iload K 0 dX7_walk_58 rfl ?_
        refine zz_if_lt K 77 dX7_walk_60 rfl (fun c24 => ?_) (fun c24 => ?_)
        · have h := (And.left h) c24
          refine zz_bipush K dX7_walk_77 zcCb_m9 ?_
          refine zz_goto K 92 dX7_walk_79 rfl ?_
          exact hret _ _ rfl h _ _ dX7_walk_92
        · have h := (And.right h) c24
          refine zz_iload_n K 4 dX7_walk_63 rfl rfl ?_
          refine zz_aload_n K 1 dX7_walk_64 rfl rfl ?_
          refine zg7_4_0 K zin_X7_walk_X7 zlk_X7_walk_2 dX7_walk_65 ?_
          refine zg4_0_0 K zin_X7_walk_X4 zlk_X7_walk_3 dX7_walk_68 ?_
          refine zz_iload K 0 dX7_walk_71 rfl ?_
          obtain ⟨hin, h⟩ := h
          refine zz_iaload K 0 (wC_at_19 ad cy g23) rfl hin dX7_walk_73 ?_
          refine zz_icmp_lt K 82 dX7_walk_74 rfl (fun c25 => ?_) (fun c25 => ?_)
          · have h := (And.left h) c25
            refine zz_aload_n K 1 dX7_walk_82 rfl rfl ?_
            refine zg7_4_0 K zin_X7_walk_X7 zlk_X7_walk_2 dX7_walk_83 ?_
            refine zz_iload K 0 dX7_walk_86 rfl ?_
            refine zz_iload_n K 4 dX7_walk_88 rfl rfl ?_
            refine zz_callVi1 K zz_nwC [.int r22, .int v3] (zc4_wayToward l D ad cy r22 v3 g23 _  h) gX7_walk_X4_wayToward rfl ⟨rfl, rfl⟩ zdsC_yX4_wayToward_v ⟨Nat.le_of_ble_eq_true rfl, Nat.le_of_ble_eq_true rfl⟩ (wC_at_4 ad cy g23) rfl rfl rfl rfl (Nat.le_of_ble_eq_true rfl) dX7_walk_89 (fun r26 h => ?_)
            exact hret _ _ rfl h _ _ dX7_walk_92
          · have h := (And.right h) c25
            refine zz_bipush K dX7_walk_77 zcCb_m9 ?_
            refine zz_goto K 92 dX7_walk_79 rfl ?_
            exact hret _ _ rfl h _ _ dX7_walk_92
      · have h := (And.right h) c21
        refine zz_aload_n K 0 dX7_walk_36 rfl rfl ?_
        refine zz_bipush K dX7_walk_37 zcCb_m3 ?_
        refine zz_callVi K zz_nwC [.int (-3 : Int32)] (zc7_refuse l D ad cy (-3 : Int32) σ _  h) gX7_walk_X7_refuse rfl ⟨rfl, rfl⟩ zdsC_yX7_refuse_v ⟨Nat.le_of_ble_eq_true rfl, Nat.le_of_ble_eq_true rfl⟩ (wC_at_0 ad cy σ) rfl rfl rfl rfl (Nat.le_of_ble_eq_true rfl) dX7_walk_39 (fun r27 g28 h => ?_)
        exact hret _ _ rfl h _ _ dX7_walk_42
    · have h := (And.right h) c19
      refine zz_aload_n K 0 dX7_walk_19 rfl rfl ?_
      refine zz_bipush K dX7_walk_20 zcCb_m4 ?_
      refine zz_callVi K zz_nwC [.int (-4 : Int32)] (zc7_refuse l D ad cy (-4 : Int32) σ _  h) gX7_walk_X7_refuse rfl ⟨rfl, rfl⟩ zdsC_yX7_refuse_v ⟨Nat.le_of_ble_eq_true rfl, Nat.le_of_ble_eq_true rfl⟩ (wC_at_0 ad cy σ) rfl rfl rfl rfl (Nat.le_of_ble_eq_true rfl) dX7_walk_22 (fun r29 g30 h => ?_)
      exact hret _ _ rfl h _ _ dX7_walk_25
  · have h := (And.right h) c18
    refine zz_aload_n K 0 dX7_walk_9 rfl rfl ?_
    refine zz_iconst K dX7_walk_10 zcCi_m1 ?_
    refine zz_callVi K zz_nwC [.int (-1 : Int32)] (zc7_refuse l D ad cy (-1 : Int32) σ _  h) gX7_walk_X7_refuse rfl ⟨rfl, rfl⟩ zdsC_yX7_refuse_v ⟨Nat.le_of_ble_eq_true rfl, Nat.le_of_ble_eq_true rfl⟩ (wC_at_0 ad cy σ) rfl rfl rfl rfl (Nat.le_of_ble_eq_true rfl) dX7_walk_11 (fun r31 g32 h => ?_)
    exact hret _ _ rfl h _ _ dX7_walk_14
set_option maxRecDepth 100000 in
theorem zc7_walk (l : Launch) (D : va_G) (ad : Nat → Nat) (cy : Nat → ClassId) (v1 : Int32) (v2 : Int32) (v3 : Int32) (σ : zz_St) (Qp : Int32 → zz_St → Prop) (h : zq7_walk v1 v2 v3 σ Qp) : zz_Mi l yX7_walk wsX7_walk zrm7_walk D (tysC cy) (wC ad cy) nwC [.ref (ad 0), .int v1, .int v2, .int v3] σ Qp :=
  zz_Mi.of zz_nwC (wC_ad ad cy) (by decide +kernel) rfl ⟨rfl, rfl⟩ (Nat.le_of_ble_eq_true rfl) (fun p e s m args below meth c A QW K hret => zu7_walk_0 K  hret h)
theorem zin_X7_faces_X7 : ∀ w ∈ wsX70, w ∈ wsX7_faces := fun w h => List.mem_cons_of_mem _ (List.mem_append_left _ (List.mem_append_left _ (List.mem_append_left _ (List.mem_append_right _ h))))
theorem zlk_X7_faces_1 : Cond.fieldLink RX7 26 "SolidsRolled" "world" "LSolidsRolled$World;" ∈ wsX7_faces := List.mem_of_getElem? (i := 1) rfl
theorem zin_X7_faces_X6 : ∀ w ∈ wsX60, w ∈ wsX7_faces := fun w h => List.mem_cons_of_mem _ (List.mem_append_left _ (List.mem_append_left _ (List.mem_append_right _ h)))
theorem zlk_X7_faces_2 : Cond.fieldLink RX7 163 "SolidsRolled$World" "kind" "I" ∈ wsX7_faces := List.mem_of_getElem? (i := 2) rfl
theorem zlk_X7_faces_3 : Cond.fieldLink RX7 47 "SolidsRolled" "search" "LSolidsRolled$Search;" ∈ wsX7_faces := List.mem_of_getElem? (i := 3) rfl
theorem zdsC_yX4_facesAt_v : yX4_facesAt.cls = RX4 ∧ yX4_facesAt.cls ≠ "java/lang/invoke/MethodHandle" ∧ yX4_facesAt.cls ≠ "java/lang/invoke/VarHandle" ∧ (parseMethodDescriptor yX4_facesAt.desc).map (fun d => d.parameters.length) = some 2 := by decide +kernel
abbrev zrm7_faces : Room := { frames := 5, cells := 0, slots := 0, locals := 125 }
set_option maxHeartbeats 4000000 in
set_option maxRecDepth 100000 in
theorem zu7_faces_0 {p : Program} {l : Launch} {e : Env} {s : State} {m : MethodId} {args : Array Value} {below : List Frame} {meth : Method} {c : Code} {Q : State → Prop} {D : va_G} {A : Nat → Prop} {ad : Nat → Nat} {cy : Nat → ClassId} {v1 : Int32} {σ : zz_St} (K : zz_K p s m args c cX7_faces 2 RX7 wsX7_faces D (tysC cy) A (wC ad cy) nwC) {Qp : Int32 → zz_St → Prop} (hret : ∀ (r : Int32) (σ2 : zz_St), narrow .int (.int r) = .int r → Qp r σ2 → ∀ (pc : Nat) (lv : List (Nat × Value)), decode cX7_faces pc = .ok (.ireturn, 1) → zz_G p l e zrm7_faces s m args below meth c Q D A (wC ad cy) 2 pc lv [.int r] σ2) (h : zq7_faces v1 σ Qp) : zz_G p l e zrm7_faces s m args below meth c Q D A (wC ad cy) 2 0 [(0, .ref (ad 0)), (1, .int v1)] [] σ := by
  unfold zq7_faces at h
  refine zz_aload_n K 0 dX7_faces_0 rfl rfl ?_
  refine zg7_0_0 K zin_X7_faces_X7 zlk_X7_faces_1 dX7_faces_1 ?_
  refine zz_aload_n K 0 dX7_faces_4 rfl rfl ?_
  refine zg7_0_0 K zin_X7_faces_X7 zlk_X7_faces_1 dX7_faces_5 ?_
  refine zg6_6_0 K zin_X7_faces_X6 zlk_X7_faces_2 dX7_faces_8 ?_
  refine zz_iload_n K 1 dX7_faces_11 rfl rfl ?_
  refine zz_callVi1 K zz_nwC [.int ((σ).1 6), .int v1] (zc6_hasPlace l D ad cy ((σ).1 6) v1 σ _  h) gX7_faces_X6_hasPlace rfl ⟨rfl, rfl⟩ zdsC_yX6_hasPlace_v ⟨Nat.le_of_ble_eq_true rfl, Nat.le_of_ble_eq_true rfl⟩ (wC_at_1 ad cy σ) rfl rfl rfl rfl (Nat.le_of_ble_eq_true rfl) dX7_faces_12 (fun r11 h => ?_)
  refine zz_if_ne K 24 dX7_faces_15 rfl (fun c12 => ?_) (fun c12 => ?_)
  · have h := (And.left h) c12
    refine zz_aload_n K 0 dX7_faces_24 rfl rfl ?_
    refine zg7_0_0 K zin_X7_faces_X7 zlk_X7_faces_1 dX7_faces_25 ?_
    refine zz_callVi1 K zz_nwC [] (zc6_isNone l D ad cy  σ _  h) gX7_faces_X6_isNone rfl ⟨rfl, rfl⟩ zdsC_yX6_isNone_v ⟨Nat.le_of_ble_eq_true rfl, Nat.le_of_ble_eq_true rfl⟩ (wC_at_1 ad cy σ) rfl rfl rfl rfl (Nat.le_of_ble_eq_true rfl) dX7_faces_28 (fun r13 h => ?_)
    refine zz_if_eq K 41 dX7_faces_31 rfl (fun c14 => ?_) (fun c14 => ?_)
    · have h := (And.left h) c14
      refine zz_aload_n K 0 dX7_faces_41 rfl rfl ?_
      refine zg7_4_0 K zin_X7_faces_X7 zlk_X7_faces_3 dX7_faces_42 ?_
      refine zz_aload_n K 0 dX7_faces_45 rfl rfl ?_
      refine zg7_0_0 K zin_X7_faces_X7 zlk_X7_faces_1 dX7_faces_46 ?_
      refine zz_callVv K zz_nwC [.ref (ad 1)] (zc4_floodAll l D ad cy  σ _  h) gX7_faces_X4_floodAll rfl ⟨rfl, rfl⟩ zdsC_yX4_floodAll_v ⟨Nat.le_of_ble_eq_true rfl, Nat.le_of_ble_eq_true rfl⟩ (wC_at_4 ad cy σ) rfl rfl rfl rfl (Nat.le_of_ble_eq_true rfl) dX7_faces_49 (fun g15 h => ?_)
      refine zz_aload_n K 0 dX7_faces_52 rfl rfl ?_
      refine zg7_4_0 K zin_X7_faces_X7 zlk_X7_faces_3 dX7_faces_53 ?_
      refine zz_aload_n K 0 dX7_faces_56 rfl rfl ?_
      refine zg7_0_0 K zin_X7_faces_X7 zlk_X7_faces_1 dX7_faces_57 ?_
      refine zz_iload_n K 1 dX7_faces_60 rfl rfl ?_
      refine zz_callVi1 K zz_nwC [.ref (ad 1), .int v1] (zc4_facesAt l D ad cy v1 g15 _  h) gX7_faces_X4_facesAt rfl ⟨rfl, rfl⟩ zdsC_yX4_facesAt_v ⟨Nat.le_of_ble_eq_true rfl, Nat.le_of_ble_eq_true rfl⟩ (wC_at_4 ad cy g15) rfl rfl rfl rfl (Nat.le_of_ble_eq_true rfl) dX7_faces_61 (fun r16 h => ?_)
      exact hret _ _ rfl h _ _ dX7_faces_64
    · have h := (And.right h) c14
      refine zz_aload_n K 0 dX7_faces_34 rfl rfl ?_
      refine zz_bipush K dX7_faces_35 zcCb_m3 ?_
      refine zz_callVi K zz_nwC [.int (-3 : Int32)] (zc7_refuse l D ad cy (-3 : Int32) σ _  h) gX7_faces_X7_refuse rfl ⟨rfl, rfl⟩ zdsC_yX7_refuse_v ⟨Nat.le_of_ble_eq_true rfl, Nat.le_of_ble_eq_true rfl⟩ (wC_at_0 ad cy σ) rfl rfl rfl rfl (Nat.le_of_ble_eq_true rfl) dX7_faces_37 (fun r17 g18 h => ?_)
      exact hret _ _ rfl h _ _ dX7_faces_40
  · have h := (And.right h) c12
    refine zz_aload_n K 0 dX7_faces_18 rfl rfl ?_
    refine zz_iconst K dX7_faces_19 zcCi_m1 ?_
    refine zz_callVi K zz_nwC [.int (-1 : Int32)] (zc7_refuse l D ad cy (-1 : Int32) σ _  h) gX7_faces_X7_refuse rfl ⟨rfl, rfl⟩ zdsC_yX7_refuse_v ⟨Nat.le_of_ble_eq_true rfl, Nat.le_of_ble_eq_true rfl⟩ (wC_at_0 ad cy σ) rfl rfl rfl rfl (Nat.le_of_ble_eq_true rfl) dX7_faces_20 (fun r19 g20 h => ?_)
    exact hret _ _ rfl h _ _ dX7_faces_23
set_option maxRecDepth 100000 in
theorem zc7_faces (l : Launch) (D : va_G) (ad : Nat → Nat) (cy : Nat → ClassId) (v1 : Int32) (σ : zz_St) (Qp : Int32 → zz_St → Prop) (h : zq7_faces v1 σ Qp) : zz_Mi l yX7_faces wsX7_faces zrm7_faces D (tysC cy) (wC ad cy) nwC [.ref (ad 0), .int v1] σ Qp :=
  zz_Mi.of zz_nwC (wC_ad ad cy) (by decide +kernel) rfl ⟨rfl, rfl⟩ (Nat.le_of_ble_eq_true rfl) (fun p e s m args below meth c A QW K hret => zu7_faces_0 K  hret h)
theorem zin_X7_fill_X7 : ∀ w ∈ wsX70, w ∈ wsX7_fill := fun w h => List.mem_cons_of_mem _ (List.mem_append_left _ (List.mem_append_left _ (List.mem_append_left _ (List.mem_append_right _ h))))
theorem zlk_X7_fill_1 : Cond.fieldLink RX7 26 "SolidsRolled" "world" "LSolidsRolled$World;" ∈ wsX7_fill := List.mem_of_getElem? (i := 1) rfl
theorem zlk_X7_fill_2 : Cond.fieldLink RX7 47 "SolidsRolled" "search" "LSolidsRolled$Search;" ∈ wsX7_fill := List.mem_of_getElem? (i := 2) rfl
theorem zdsC_yX4_bestFilled_v : yX4_bestFilled.cls = RX4 ∧ yX4_bestFilled.cls ≠ "java/lang/invoke/MethodHandle" ∧ yX4_bestFilled.cls ≠ "java/lang/invoke/VarHandle" ∧ (parseMethodDescriptor yX4_bestFilled.desc).map (fun d => d.parameters.length) = some 1 := by decide +kernel
abbrev zrm7_fill : Room := { frames := 6, cells := 0, slots := 0, locals := 151 }
set_option maxHeartbeats 4000000 in
set_option maxRecDepth 100000 in
theorem zu7_fill_9 {p : Program} {l : Launch} {e : Env} {s : State} {m : MethodId} {args : Array Value} {below : List Frame} {meth : Method} {c : Code} {Q : State → Prop} {D : va_G} {A : Nat → Prop} {ad : Nat → Nat} {cy : Nat → ClassId}  {σ : zz_St} (K : zz_K p s m args c cX7_fill 3 RX7 wsX7_fill D (tysC cy) A (wC ad cy) nwC) {Qp : Int32 → zz_St → Prop} (hret : ∀ (r : Int32) (σ2 : zz_St), narrow .int (.int r) = .int r → Qp r σ2 → ∀ (pc : Nat) (lv : List (Nat × Value)), decode cX7_fill pc = .ok (.ireturn, 1) → zz_G p l e zrm7_fill s m args below meth c Q D A (wC ad cy) 3 pc lv [.int r] σ2) (h : zq7_fill_9 σ Qp) : zz_G p l e zrm7_fill s m args below meth c Q D A (wC ad cy) 3 9 [(0, .ref (ad 0))] [] σ := by
  unfold zq7_fill_9 at h
  refine zz_aload_n K 0 dX7_fill_9 rfl rfl ?_
  refine zz_bipush K dX7_fill_10 zcCb_m2 ?_
  refine zz_callVi K zz_nwC [.int (-2 : Int32)] (zc7_refuse l D ad cy (-2 : Int32) σ _  h) gX7_fill_X7_refuse rfl ⟨rfl, rfl⟩ zdsC_yX7_refuse_v ⟨Nat.le_of_ble_eq_true rfl, Nat.le_of_ble_eq_true rfl⟩ (wC_at_0 ad cy σ) rfl rfl rfl rfl (Nat.le_of_ble_eq_true rfl) dX7_fill_12 (fun r15 g16 h => ?_)
  exact hret _ _ rfl h _ _ dX7_fill_15
set_option maxHeartbeats 4000000 in
set_option maxRecDepth 100000 in
theorem zu7_fill_0 {p : Program} {l : Launch} {e : Env} {s : State} {m : MethodId} {args : Array Value} {below : List Frame} {meth : Method} {c : Code} {Q : State → Prop} {D : va_G} {A : Nat → Prop} {ad : Nat → Nat} {cy : Nat → ClassId} {v1 : Int32} {σ : zz_St} (K : zz_K p s m args c cX7_fill 3 RX7 wsX7_fill D (tysC cy) A (wC ad cy) nwC) {Qp : Int32 → zz_St → Prop} (hret : ∀ (r : Int32) (σ2 : zz_St), narrow .int (.int r) = .int r → Qp r σ2 → ∀ (pc : Nat) (lv : List (Nat × Value)), decode cX7_fill pc = .ok (.ireturn, 1) → zz_G p l e zrm7_fill s m args below meth c Q D A (wC ad cy) 3 pc lv [.int r] σ2) (h : zq7_fill v1 σ Qp) : zz_G p l e zrm7_fill s m args below meth c Q D A (wC ad cy) 3 0 [(0, .ref (ad 0)), (1, .int v1)] [] σ := by
  unfold zq7_fill at h
  refine zz_iload_n K 1 dX7_fill_0 rfl rfl ?_
  refine zz_if_lt K 9 dX7_fill_1 rfl (fun c17 => ?_) (fun c17 => ?_)
  · have h := (And.left h) c17
    refine zz_sub [0] [(0, .ref (ad 0))] rfl ?_
    exact zu7_fill_9 K hret h
  · have h := (And.right h) c17
    refine zz_iload_n K 1 dX7_fill_4 rfl rfl ?_
    refine zz_iconst K dX7_fill_5 zcCi_1 ?_
    refine zz_icmp_le K 16 dX7_fill_6 rfl (fun c18 => ?_) (fun c18 => ?_)
    · have h := (And.left h) c18
      refine zz_aload_n K 0 dX7_fill_16 rfl rfl ?_
      refine zg7_0_0 K zin_X7_fill_X7 zlk_X7_fill_1 dX7_fill_17 ?_
      refine zz_callVi1 K zz_nwC [] (zc6_isNone l D ad cy  σ _  h) gX7_fill_X6_isNone rfl ⟨rfl, rfl⟩ zdsC_yX6_isNone_v ⟨Nat.le_of_ble_eq_true rfl, Nat.le_of_ble_eq_true rfl⟩ (wC_at_1 ad cy σ) rfl rfl rfl rfl (Nat.le_of_ble_eq_true rfl) dX7_fill_20 (fun r19 h => ?_)
      refine zz_if_eq K 33 dX7_fill_23 rfl (fun c20 => ?_) (fun c20 => ?_)
      · have h := (And.left h) c20
        refine zz_aload_n K 0 dX7_fill_33 rfl rfl ?_
        refine zg7_4_0 K zin_X7_fill_X7 zlk_X7_fill_2 dX7_fill_34 ?_
        refine zz_aload_n K 0 dX7_fill_37 rfl rfl ?_
        refine zg7_0_0 K zin_X7_fill_X7 zlk_X7_fill_1 dX7_fill_38 ?_
        refine zz_callVi K zz_nwC [.ref (ad 1)] (zc4_bestFilled l D ad cy  σ _  h) gX7_fill_X4_bestFilled rfl ⟨rfl, rfl⟩ zdsC_yX4_bestFilled_v ⟨Nat.le_of_ble_eq_true rfl, Nat.le_of_ble_eq_true rfl⟩ (wC_at_4 ad cy σ) rfl rfl rfl rfl (Nat.le_of_ble_eq_true rfl) dX7_fill_41 (fun r21 g22 h => ?_)
        refine zz_istore_n K [(2, .int r21), (0, .ref (ad 0)), (1, .int v1)] dX7_fill_44 rfl (by decide) rfl ?_
        refine zz_iload_n K 0 dX7_fill_45 rfl rfl ?_
        refine zz_if_ge K 52 dX7_fill_46 rfl (fun c23 => ?_) (fun c23 => ?_)
        · have h := (And.left h) c23
          refine zz_iload_n K 2 dX7_fill_52 rfl rfl ?_
          refine zz_if_ne K 60 dX7_fill_53 rfl (fun c24 => ?_) (fun c24 => ?_)
          · have h := (And.left h) c24
            refine zz_aload_n K 1 dX7_fill_60 rfl rfl ?_
            refine zg7_4_0 K zin_X7_fill_X7 zlk_X7_fill_2 dX7_fill_61 ?_
            refine zz_aload_n K 1 dX7_fill_64 rfl rfl ?_
            refine zg7_0_0 K zin_X7_fill_X7 zlk_X7_fill_1 dX7_fill_65 ?_
            refine zz_iload_n K 0 dX7_fill_68 rfl rfl ?_
            refine zz_callVi K zz_nwC [.ref (ad 1), .int r21] (zc4_statesFilled l D ad cy r21 g22 _  h) gX7_fill_X4_statesFilled rfl ⟨rfl, rfl⟩ zdsC_yX4_statesFilled_v ⟨Nat.le_of_ble_eq_true rfl, Nat.le_of_ble_eq_true rfl⟩ (wC_at_4 ad cy g22) rfl rfl rfl rfl (Nat.le_of_ble_eq_true rfl) dX7_fill_69 (fun r25 g26 h => ?_)
            exact hret _ _ rfl h _ _ dX7_fill_72
          · have h := (And.right h) c24
            refine zz_iload_n K 0 dX7_fill_56 rfl rfl ?_
            refine zz_goto K 72 dX7_fill_57 rfl ?_
            exact hret _ _ rfl h _ _ dX7_fill_72
        · have h := (And.right h) c23
          refine zz_bipush K dX7_fill_49 zcCb_m9 ?_
          exact hret _ _ rfl h _ _ dX7_fill_51
      · have h := (And.right h) c20
        refine zz_aload_n K 0 dX7_fill_26 rfl rfl ?_
        refine zz_bipush K dX7_fill_27 zcCb_m3 ?_
        refine zz_callVi K zz_nwC [.int (-3 : Int32)] (zc7_refuse l D ad cy (-3 : Int32) σ _  h) gX7_fill_X7_refuse rfl ⟨rfl, rfl⟩ zdsC_yX7_refuse_v ⟨Nat.le_of_ble_eq_true rfl, Nat.le_of_ble_eq_true rfl⟩ (wC_at_0 ad cy σ) rfl rfl rfl rfl (Nat.le_of_ble_eq_true rfl) dX7_fill_29 (fun r27 g28 h => ?_)
        exact hret _ _ rfl h _ _ dX7_fill_32
    · have h := (And.right h) c18
      refine zz_sub [0] [(0, .ref (ad 0))] rfl ?_
      exact zu7_fill_9 K hret h
set_option maxRecDepth 100000 in
theorem zc7_fill (l : Launch) (D : va_G) (ad : Nat → Nat) (cy : Nat → ClassId) (v1 : Int32) (σ : zz_St) (Qp : Int32 → zz_St → Prop) (h : zq7_fill v1 σ Qp) : zz_Mi l yX7_fill wsX7_fill zrm7_fill D (tysC cy) (wC ad cy) nwC [.ref (ad 0), .int v1] σ Qp :=
  zz_Mi.of zz_nwC (wC_ad ad cy) (by decide +kernel) rfl ⟨rfl, rfl⟩ (Nat.le_of_ble_eq_true rfl) (fun p e s m args below meth c A QW K hret => zu7_fill_0 K  hret h)
theorem zlk_X7_refuseLong_1 : Cond.constantLong RX7 294 (4000000000000000000) ∈ wsX7_refuseLong := List.mem_of_getElem? (i := 1) rfl
abbrev zrm7_refuseLong : Room := { frames := 1, cells := 0, slots := 0, locals := 22 }
set_option maxHeartbeats 4000000 in
set_option maxRecDepth 100000 in
theorem zu7_refuseLong_0 {p : Program} {l : Launch} {e : Env} {s : State} {m : MethodId} {args : Array Value} {below : List Frame} {meth : Method} {c : Code} {Q : State → Prop} {D : va_G} {A : Nat → Prop} {ad : Nat → Nat} {cy : Nat → ClassId} {v1 : Int32} {σ : zz_St} (K : zz_K p s m args c cX7_refuseLong 2 RX7 wsX7_refuseLong D (tysC cy) A (wC ad cy) nwC) {Qp : Int64 → zz_St → Prop} (hret : ∀ (r : Int64) (σ2 : zz_St), Qp r σ2 → ∀ (pc : Nat) (lv : List (Nat × Value)), decode cX7_refuseLong pc = .ok (.lreturn, 1) → zz_G p l e zrm7_refuseLong s m args below meth c Q D A (wC ad cy) 2 pc lv [.long r] σ2) (h : zq7_refuseLong v1 σ Qp) : zz_G p l e zrm7_refuseLong s m args below meth c Q D A (wC ad cy) 2 0 [(0, .ref (ad 0)), (1, .int v1)] [] σ := by
  unfold zq7_refuseLong at h
  refine zz_ldc2 K zlk_X7_refuseLong_1 dX7_refuseLong_0 ?_
  refine zz_aload_n K 0 dX7_refuseLong_3 rfl rfl ?_
  refine zz_iload_n K 1 dX7_refuseLong_4 rfl rfl ?_
  refine zz_callVi K zz_nwC [.int v1] (zc7_refuse l D ad cy v1 σ _  h) gX7_refuseLong_X7_refuse rfl ⟨rfl, rfl⟩ zdsC_yX7_refuse_v ⟨Nat.le_of_ble_eq_true rfl, Nat.le_of_ble_eq_true rfl⟩ (wC_at_0 ad cy σ) rfl rfl rfl rfl (Nat.le_of_ble_eq_true rfl) dX7_refuseLong_5 (fun r3 g4 h => ?_)
  refine zz_i2l K dX7_refuseLong_8 ?_
  refine zz_lsub K dX7_refuseLong_9 ?_
  exact hret _ _ h _ _ dX7_refuseLong_10
set_option maxRecDepth 100000 in
theorem zc7_refuseLong (l : Launch) (D : va_G) (ad : Nat → Nat) (cy : Nat → ClassId) (v1 : Int32) (σ : zz_St) (Qp : Int64 → zz_St → Prop) (h : zq7_refuseLong v1 σ Qp) : zz_Ml l yX7_refuseLong wsX7_refuseLong zrm7_refuseLong D (tysC cy) (wC ad cy) nwC [.ref (ad 0), .int v1] σ Qp :=
  zz_Ml.of zz_nwC (wC_ad ad cy) (by decide +kernel) rfl ⟨rfl, rfl⟩ (Nat.le_of_ble_eq_true rfl) (fun p e s m args below meth c A QW K hret => zu7_refuseLong_0 K  hret h)
theorem zin_X7_needed_X7 : ∀ w ∈ wsX70, w ∈ wsX7_needed := fun w h => List.mem_cons_of_mem _ (List.mem_append_left _ (List.mem_append_left _ (List.mem_append_left _ (List.mem_append_right _ h))))
theorem zlk_X7_needed_1 : Cond.fieldLink RX7 26 "SolidsRolled" "world" "LSolidsRolled$World;" ∈ wsX7_needed := List.mem_of_getElem? (i := 1) rfl
theorem zin_X7_needed_X6 : ∀ w ∈ wsX60, w ∈ wsX7_needed := fun w h => List.mem_cons_of_mem _ (List.mem_append_left _ (List.mem_append_left _ (List.mem_append_right _ h)))
theorem zlk_X7_needed_2 : Cond.fieldLink RX7 163 "SolidsRolled$World" "kind" "I" ∈ wsX7_needed := List.mem_of_getElem? (i := 2) rfl
theorem zlk_X7_needed_3 : Cond.fieldLink RX7 47 "SolidsRolled" "search" "LSolidsRolled$Search;" ∈ wsX7_needed := List.mem_of_getElem? (i := 3) rfl
theorem zdsC_yX4_tilesNeeded_v : yX4_tilesNeeded.cls = RX4 ∧ yX4_tilesNeeded.cls ≠ "java/lang/invoke/MethodHandle" ∧ yX4_tilesNeeded.cls ≠ "java/lang/invoke/VarHandle" ∧ (parseMethodDescriptor yX4_tilesNeeded.desc).map (fun d => d.parameters.length) = some 2 := by decide +kernel
theorem zdsC_yX7_refuseLong_v : yX7_refuseLong.cls = RX7 ∧ yX7_refuseLong.cls ≠ "java/lang/invoke/MethodHandle" ∧ yX7_refuseLong.cls ≠ "java/lang/invoke/VarHandle" ∧ (parseMethodDescriptor yX7_refuseLong.desc).map (fun d => d.parameters.length) = some 1 := by decide +kernel
abbrev zrm7_needed : Room := { frames := 6, cells := 0, slots := 0, locals := 159 }
set_option maxHeartbeats 4000000 in
set_option maxRecDepth 100000 in
theorem zu7_needed_0 {p : Program} {l : Launch} {e : Env} {s : State} {m : MethodId} {args : Array Value} {below : List Frame} {meth : Method} {c : Code} {Q : State → Prop} {D : va_G} {A : Nat → Prop} {ad : Nat → Nat} {cy : Nat → ClassId} {v1 : Int32} {σ : zz_St} (K : zz_K p s m args c cX7_needed 2 RX7 wsX7_needed D (tysC cy) A (wC ad cy) nwC) {Qp : Int64 → zz_St → Prop} (hret : ∀ (r : Int64) (σ2 : zz_St), Qp r σ2 → ∀ (pc : Nat) (lv : List (Nat × Value)), decode cX7_needed pc = .ok (.lreturn, 1) → zz_G p l e zrm7_needed s m args below meth c Q D A (wC ad cy) 2 pc lv [.long r] σ2) (h : zq7_needed v1 σ Qp) : zz_G p l e zrm7_needed s m args below meth c Q D A (wC ad cy) 2 0 [(0, .ref (ad 0)), (1, .int v1)] [] σ := by
  unfold zq7_needed at h
  refine zz_aload_n K 0 dX7_needed_0 rfl rfl ?_
  refine zg7_0_0 K zin_X7_needed_X7 zlk_X7_needed_1 dX7_needed_1 ?_
  refine zz_aload_n K 0 dX7_needed_4 rfl rfl ?_
  refine zg7_0_0 K zin_X7_needed_X7 zlk_X7_needed_1 dX7_needed_5 ?_
  refine zg6_6_0 K zin_X7_needed_X6 zlk_X7_needed_2 dX7_needed_8 ?_
  refine zz_iload_n K 1 dX7_needed_11 rfl rfl ?_
  refine zz_callVi1 K zz_nwC [.int ((σ).1 6), .int v1] (zc6_hasPlace l D ad cy ((σ).1 6) v1 σ _  h) gX7_needed_X6_hasPlace rfl ⟨rfl, rfl⟩ zdsC_yX6_hasPlace_v ⟨Nat.le_of_ble_eq_true rfl, Nat.le_of_ble_eq_true rfl⟩ (wC_at_1 ad cy σ) rfl rfl rfl rfl (Nat.le_of_ble_eq_true rfl) dX7_needed_12 (fun r11 h => ?_)
  refine zz_if_ne K 24 dX7_needed_15 rfl (fun c12 => ?_) (fun c12 => ?_)
  · have h := (And.left h) c12
    refine zz_aload_n K 0 dX7_needed_24 rfl rfl ?_
    refine zg7_0_0 K zin_X7_needed_X7 zlk_X7_needed_1 dX7_needed_25 ?_
    refine zz_callVi1 K zz_nwC [] (zc6_isNone l D ad cy  σ _  h) gX7_needed_X6_isNone rfl ⟨rfl, rfl⟩ zdsC_yX6_isNone_v ⟨Nat.le_of_ble_eq_true rfl, Nat.le_of_ble_eq_true rfl⟩ (wC_at_1 ad cy σ) rfl rfl rfl rfl (Nat.le_of_ble_eq_true rfl) dX7_needed_28 (fun r13 h => ?_)
    refine zz_if_eq K 41 dX7_needed_31 rfl (fun c14 => ?_) (fun c14 => ?_)
    · have h := (And.left h) c14
      refine zz_aload_n K 0 dX7_needed_41 rfl rfl ?_
      refine zg7_4_0 K zin_X7_needed_X7 zlk_X7_needed_3 dX7_needed_42 ?_
      refine zz_aload_n K 0 dX7_needed_45 rfl rfl ?_
      refine zg7_0_0 K zin_X7_needed_X7 zlk_X7_needed_1 dX7_needed_46 ?_
      refine zz_iload_n K 1 dX7_needed_49 rfl rfl ?_
      refine zz_callVl K zz_nwC [.ref (ad 1), .int v1] (zc4_tilesNeeded l D ad cy v1 σ _  h) gX7_needed_X4_tilesNeeded rfl ⟨rfl, rfl⟩ zdsC_yX4_tilesNeeded_v ⟨Nat.le_of_ble_eq_true rfl, Nat.le_of_ble_eq_true rfl⟩ (wC_at_4 ad cy σ) rfl rfl rfl rfl (Nat.le_of_ble_eq_true rfl) dX7_needed_50 (fun r15 g16 h => ?_)
      exact hret _ _ h _ _ dX7_needed_53
    · have h := (And.right h) c14
      refine zz_aload_n K 0 dX7_needed_34 rfl rfl ?_
      refine zz_bipush K dX7_needed_35 zcCb_m3 ?_
      refine zz_callVl K zz_nwC [.int (-3 : Int32)] (zc7_refuseLong l D ad cy (-3 : Int32) σ _  h) gX7_needed_X7_refuseLong rfl ⟨rfl, rfl⟩ zdsC_yX7_refuseLong_v ⟨Nat.le_of_ble_eq_true rfl, Nat.le_of_ble_eq_true rfl⟩ (wC_at_0 ad cy σ) rfl rfl rfl rfl (Nat.le_of_ble_eq_true rfl) dX7_needed_37 (fun r17 g18 h => ?_)
      exact hret _ _ h _ _ dX7_needed_40
  · have h := (And.right h) c12
    refine zz_aload_n K 0 dX7_needed_18 rfl rfl ?_
    refine zz_iconst K dX7_needed_19 zcCi_m1 ?_
    refine zz_callVl K zz_nwC [.int (-1 : Int32)] (zc7_refuseLong l D ad cy (-1 : Int32) σ _  h) gX7_needed_X7_refuseLong rfl ⟨rfl, rfl⟩ zdsC_yX7_refuseLong_v ⟨Nat.le_of_ble_eq_true rfl, Nat.le_of_ble_eq_true rfl⟩ (wC_at_0 ad cy σ) rfl rfl rfl rfl (Nat.le_of_ble_eq_true rfl) dX7_needed_20 (fun r19 g20 h => ?_)
    exact hret _ _ h _ _ dX7_needed_23
set_option maxRecDepth 100000 in
theorem zc7_needed (l : Launch) (D : va_G) (ad : Nat → Nat) (cy : Nat → ClassId) (v1 : Int32) (σ : zz_St) (Qp : Int64 → zz_St → Prop) (h : zq7_needed v1 σ Qp) : zz_Ml l yX7_needed wsX7_needed zrm7_needed D (tysC cy) (wC ad cy) nwC [.ref (ad 0), .int v1] σ Qp :=
  zz_Ml.of zz_nwC (wC_ad ad cy) (by decide +kernel) rfl ⟨rfl, rfl⟩ (Nat.le_of_ble_eq_true rfl) (fun p e s m args below meth c A QW K hret => zu7_needed_0 K  hret h)
theorem zin_X7_paint_X7 : ∀ w ∈ wsX70, w ∈ wsX7_paint := fun w h => List.mem_cons_of_mem _ (List.mem_append_left _ (List.mem_append_left _ (List.mem_append_left _ (List.mem_append_right _ h))))
theorem zlk_X7_paint_1 : Cond.fieldLink RX7 26 "SolidsRolled" "world" "LSolidsRolled$World;" ∈ wsX7_paint := List.mem_of_getElem? (i := 1) rfl
theorem zin_X7_paint_X6 : ∀ w ∈ wsX60, w ∈ wsX7_paint := fun w h => List.mem_cons_of_mem _ (List.mem_append_left _ (List.mem_append_left _ (List.mem_append_right _ h)))
theorem zlk_X7_paint_2 : Cond.fieldLink RX7 121 "SolidsRolled$World" "prints" "[I" ∈ wsX7_paint := List.mem_of_getElem? (i := 2) rfl
theorem zlk_X7_paint_3 : Cond.fieldLink RX7 47 "SolidsRolled" "search" "LSolidsRolled$Search;" ∈ wsX7_paint := List.mem_of_getElem? (i := 3) rfl
theorem zdsC_yX4_rollsToPaint_v : yX4_rollsToPaint.cls = RX4 ∧ yX4_rollsToPaint.cls ≠ "java/lang/invoke/MethodHandle" ∧ yX4_rollsToPaint.cls ≠ "java/lang/invoke/VarHandle" ∧ (parseMethodDescriptor yX4_rollsToPaint.desc).map (fun d => d.parameters.length) = some 3 := by decide +kernel
abbrev zrm7_paint : Room := { frames := 6, cells := 0, slots := 0, locals := 151 }
set_option maxHeartbeats 4000000 in
set_option maxRecDepth 100000 in
theorem zu7_paint_19 {p : Program} {l : Launch} {e : Env} {s : State} {m : MethodId} {args : Array Value} {below : List Frame} {meth : Method} {c : Code} {Q : State → Prop} {D : va_G} {A : Nat → Prop} {ad : Nat → Nat} {cy : Nat → ClassId}  {σ : zz_St} (K : zz_K p s m args c cX7_paint 3 RX7 wsX7_paint D (tysC cy) A (wC ad cy) nwC) {Qp : Int32 → zz_St → Prop} (hret : ∀ (r : Int32) (σ2 : zz_St), narrow .int (.int r) = .int r → Qp r σ2 → ∀ (pc : Nat) (lv : List (Nat × Value)), decode cX7_paint pc = .ok (.ireturn, 1) → zz_G p l e zrm7_paint s m args below meth c Q D A (wC ad cy) 3 pc lv [.int r] σ2) (h : zq7_paint_19 σ Qp) : zz_G p l e zrm7_paint s m args below meth c Q D A (wC ad cy) 3 19 [(0, .ref (ad 0))] [] σ := by
  unfold zq7_paint_19 at h
  refine zz_aload_n K 0 dX7_paint_19 rfl rfl ?_
  refine zz_iconst K dX7_paint_20 zcCi_m1 ?_
  refine zz_callVi K zz_nwC [.int (-1 : Int32)] (zc7_refuse l D ad cy (-1 : Int32) σ _  h) gX7_paint_X7_refuse rfl ⟨rfl, rfl⟩ zdsC_yX7_refuse_v ⟨Nat.le_of_ble_eq_true rfl, Nat.le_of_ble_eq_true rfl⟩ (wC_at_0 ad cy σ) rfl rfl rfl rfl (Nat.le_of_ble_eq_true rfl) dX7_paint_21 (fun r14 g15 h => ?_)
  exact hret _ _ rfl h _ _ dX7_paint_24
set_option maxHeartbeats 4000000 in
set_option maxRecDepth 100000 in
theorem zu7_paint_0 {p : Program} {l : Launch} {e : Env} {s : State} {m : MethodId} {args : Array Value} {below : List Frame} {meth : Method} {c : Code} {Q : State → Prop} {D : va_G} {A : Nat → Prop} {ad : Nat → Nat} {cy : Nat → ClassId} {v1 : Int32} {v2 : Int32} {σ : zz_St} (K : zz_K p s m args c cX7_paint 3 RX7 wsX7_paint D (tysC cy) A (wC ad cy) nwC) {Qp : Int32 → zz_St → Prop} (hret : ∀ (r : Int32) (σ2 : zz_St), narrow .int (.int r) = .int r → Qp r σ2 → ∀ (pc : Nat) (lv : List (Nat × Value)), decode cX7_paint pc = .ok (.ireturn, 1) → zz_G p l e zrm7_paint s m args below meth c Q D A (wC ad cy) 3 pc lv [.int r] σ2) (h : zq7_paint v1 v2 σ Qp) : zz_G p l e zrm7_paint s m args below meth c Q D A (wC ad cy) 3 0 [(0, .ref (ad 0)), (1, .int v1), (2, .int v2)] [] σ := by
  unfold zq7_paint at h
  refine zz_aload_n K 0 dX7_paint_0 rfl rfl ?_
  refine zg7_0_0 K zin_X7_paint_X7 zlk_X7_paint_1 dX7_paint_1 ?_
  refine zz_iload_n K 1 dX7_paint_4 rfl rfl ?_
  refine zz_callVi1 K zz_nwC [.int v1] (zc6_hasTile l D ad cy v1 σ _  h) gX7_paint_X6_hasTile rfl ⟨rfl, rfl⟩ zdsC_yX6_hasTile_v ⟨Nat.le_of_ble_eq_true rfl, Nat.le_of_ble_eq_true rfl⟩ (wC_at_1 ad cy σ) rfl rfl rfl rfl (Nat.le_of_ble_eq_true rfl) dX7_paint_5 (fun r16 h => ?_)
  refine zz_if_eq K 19 dX7_paint_8 rfl (fun c17 => ?_) (fun c17 => ?_)
  · have h := (And.left h) c17
    refine zz_sub [0] [(0, .ref (ad 0))] rfl ?_
    exact zu7_paint_19 K hret h
  · have h := (And.right h) c17
    refine zz_aload_n K 0 dX7_paint_11 rfl rfl ?_
    refine zz_iload_n K 2 dX7_paint_12 rfl rfl ?_
    refine zz_callVi1 K zz_nwC [.int v2] (zc7_isFace l D ad cy v2 σ _  h) gX7_paint_X7_isFace rfl ⟨rfl, rfl⟩ zdsC_yX7_isFace_v ⟨Nat.le_of_ble_eq_true rfl, Nat.le_of_ble_eq_true rfl⟩ (wC_at_0 ad cy σ) rfl rfl rfl rfl (Nat.le_of_ble_eq_true rfl) dX7_paint_13 (fun r18 h => ?_)
    refine zz_if_ne K 25 dX7_paint_16 rfl (fun c19 => ?_) (fun c19 => ?_)
    · have h := (And.left h) c19
      refine zz_aload_n K 0 dX7_paint_25 rfl rfl ?_
      refine zg7_0_0 K zin_X7_paint_X7 zlk_X7_paint_1 dX7_paint_26 ?_
      refine zz_callVi1 K zz_nwC [] (zc6_isNone l D ad cy  σ _  h) gX7_paint_X6_isNone rfl ⟨rfl, rfl⟩ zdsC_yX6_isNone_v ⟨Nat.le_of_ble_eq_true rfl, Nat.le_of_ble_eq_true rfl⟩ (wC_at_1 ad cy σ) rfl rfl rfl rfl (Nat.le_of_ble_eq_true rfl) dX7_paint_29 (fun r20 h => ?_)
      refine zz_if_eq K 42 dX7_paint_32 rfl (fun c21 => ?_) (fun c21 => ?_)
      · have h := (And.left h) c21
        refine zz_aload_n K 0 dX7_paint_42 rfl rfl ?_
        refine zg7_0_0 K zin_X7_paint_X7 zlk_X7_paint_1 dX7_paint_43 ?_
        refine zg6_3_0 K zin_X7_paint_X6 zlk_X7_paint_2 dX7_paint_46 ?_
        refine zz_iload_n K 1 dX7_paint_49 rfl rfl ?_
        obtain ⟨hin, h⟩ := h
        refine zz_iaload K 0 (wC_at_16 ad cy σ) rfl hin dX7_paint_50 ?_
        refine zz_iload_n K 2 dX7_paint_51 rfl rfl ?_
        refine zz_icmp_ne K 59 dX7_paint_52 rfl (fun c22 => ?_) (fun c22 => ?_)
        · have h := (And.left h) c22
          refine zz_aload_n K 0 dX7_paint_59 rfl rfl ?_
          refine zg7_4_0 K zin_X7_paint_X7 zlk_X7_paint_3 dX7_paint_60 ?_
          refine zz_aload_n K 0 dX7_paint_63 rfl rfl ?_
          refine zg7_0_0 K zin_X7_paint_X7 zlk_X7_paint_1 dX7_paint_64 ?_
          refine zz_iload_n K 1 dX7_paint_67 rfl rfl ?_
          refine zz_iload_n K 2 dX7_paint_68 rfl rfl ?_
          refine zz_callVi K zz_nwC [.ref (ad 1), .int v1, .int v2] (zc4_rollsToPaint l D ad cy v1 v2 σ _  h) gX7_paint_X4_rollsToPaint rfl ⟨rfl, rfl⟩ zdsC_yX4_rollsToPaint_v ⟨Nat.le_of_ble_eq_true rfl, Nat.le_of_ble_eq_true rfl⟩ (wC_at_4 ad cy σ) rfl rfl rfl rfl (Nat.le_of_ble_eq_true rfl) dX7_paint_69 (fun r23 g24 h => ?_)
          exact hret _ _ rfl h _ _ dX7_paint_72
        · have h := (And.right h) c22
          refine zz_iconst K dX7_paint_55 zcCi_0 ?_
          refine zz_goto K 72 dX7_paint_56 rfl ?_
          exact hret _ _ rfl h _ _ dX7_paint_72
      · have h := (And.right h) c21
        refine zz_aload_n K 0 dX7_paint_35 rfl rfl ?_
        refine zz_bipush K dX7_paint_36 zcCb_m3 ?_
        refine zz_callVi K zz_nwC [.int (-3 : Int32)] (zc7_refuse l D ad cy (-3 : Int32) σ _  h) gX7_paint_X7_refuse rfl ⟨rfl, rfl⟩ zdsC_yX7_refuse_v ⟨Nat.le_of_ble_eq_true rfl, Nat.le_of_ble_eq_true rfl⟩ (wC_at_0 ad cy σ) rfl rfl rfl rfl (Nat.le_of_ble_eq_true rfl) dX7_paint_38 (fun r25 g26 h => ?_)
        exact hret _ _ rfl h _ _ dX7_paint_41
    · have h := (And.right h) c19
      refine zz_sub [0] [(0, .ref (ad 0))] rfl ?_
      exact zu7_paint_19 K hret h
set_option maxRecDepth 100000 in
theorem zc7_paint (l : Launch) (D : va_G) (ad : Nat → Nat) (cy : Nat → ClassId) (v1 : Int32) (v2 : Int32) (σ : zz_St) (Qp : Int32 → zz_St → Prop) (h : zq7_paint v1 v2 σ Qp) : zz_Mi l yX7_paint wsX7_paint zrm7_paint D (tysC cy) (wC ad cy) nwC [.ref (ad 0), .int v1, .int v2] σ Qp :=
  zz_Mi.of zz_nwC (wC_ad ad cy) (by decide +kernel) rfl ⟨rfl, rfl⟩ (Nat.le_of_ble_eq_true rfl) (fun p e s m args below meth c A QW K hret => zu7_paint_0 K  hret h)
theorem zlk_X7_partInLeastTerms_1 : Cond.constantLong RX7 277 (2) ∈ wsX7_partInLeastTerms := List.mem_of_getElem? (i := 1) rfl
abbrev zrm7_partInLeastTerms : Room := { frames := 0, cells := 0, slots := 0, locals := 0 }
set_option maxHeartbeats 4000000 in
set_option maxRecDepth 100000 in
theorem zu7_partInLeastTerms_52 {p : Program} {l : Launch} {e : Env} {s : State} {m : MethodId} {args : Array Value} {below : List Frame} {meth : Method} {c : Code} {Q : State → Prop} {D : va_G} {A : Nat → Prop} {ad : Nat → Nat} {cy : Nat → ClassId} {v3 : Int32} {v4 : Int64} {v6 : Int32} {σ : zz_St} (K : zz_K p s m args c cX7_partInLeastTerms 8 RX7 wsX7_partInLeastTerms D (tysC cy) A (wC ad cy) nwC) {Qp : Int64 → Prop} (hret : ∀ (r : Int64), Qp r → ∀ (pc : Nat) (lv : List (Nat × Value)), decode cX7_partInLeastTerms pc = .ok (.lreturn, 1) → zz_G p l e zrm7_partInLeastTerms s m args below meth c Q D A (wC ad cy) 8 pc lv [.long r] σ) (h : zq7_partInLeastTerms_52 v3 v4 v6 Qp) : zz_G p l e zrm7_partInLeastTerms s m args below meth c Q D A (wC ad cy) 8 52 [(3, .int v3), (4, .long v4), (6, .int v6)] [] σ := by
  unfold zq7_partInLeastTerms_52 at h
  refine zz_iload_n K 0 dX7_partInLeastTerms_52 rfl rfl ?_
  refine zz_if_ne K 61 dX7_partInLeastTerms_53 rfl (fun c6 => ?_) (fun c6 => ?_)
  · have h := (And.left h) c6
    refine zz_lconst K (v := (1 : Int64)) dX7_partInLeastTerms_61 rfl ?_
    refine zz_iload K 2 dX7_partInLeastTerms_62 rfl ?_
    refine zz_lshl K dX7_partInLeastTerms_64 ?_
    exact hret _ h _ _ dX7_partInLeastTerms_65
  · have h := (And.right h) c6
    refine zz_lload K 1 dX7_partInLeastTerms_56 rfl ?_
    refine zz_goto K 65 dX7_partInLeastTerms_58 rfl ?_
    exact hret _ h _ _ dX7_partInLeastTerms_65
set_option maxHeartbeats 4000000 in
set_option maxRecDepth 100000 in
theorem zu7_partInLeastTerms_18 {p : Program} {l : Launch} {e : Env} {s : State} {m : MethodId} {args : Array Value} {below : List Frame} {meth : Method} {c : Code} {Q : State → Prop} {D : va_G} {A : Nat → Prop} {ad : Nat → Nat} {cy : Nat → ClassId} {v2 : Int32} {v3 : Int32} {v4 : Int64} {v6 : Int32} {v7 : Int32} {σ : zz_St} (K : zz_K p s m args c cX7_partInLeastTerms 8 RX7 wsX7_partInLeastTerms D (tysC cy) A (wC ad cy) nwC) {Qp : Int64 → Prop} (hret : ∀ (r : Int64), Qp r → ∀ (pc : Nat) (lv : List (Nat × Value)), decode cX7_partInLeastTerms pc = .ok (.lreturn, 1) → zz_G p l e zrm7_partInLeastTerms s m args below meth c Q D A (wC ad cy) 8 pc lv [.long r] σ) (h : zq7_partInLeastTerms_18 v2 v3 v4 v6 v7 Qp) : zz_G p l e zrm7_partInLeastTerms s m args below meth c Q D A (wC ad cy) 8 18 [(2, .int v2), (3, .int v3), (4, .long v4), (6, .int v6), (7, .int v7)] [] σ := by
  unfold zq7_partInLeastTerms_18 at h
  obtain ⟨I18, M18, h0, hs⟩ := h
  have key : ∀ (nq : Nat) (v4 : Int64) (v6 : Int32) (v7 : Int32), M18 v4 v6 v7 < nq → I18 v4 v6 v7 → zz_G p l e zrm7_partInLeastTerms s m args below meth c Q D A (wC ad cy) 8 18 [(2, .int v2), (3, .int v3), (4, .long v4), (6, .int v6), (7, .int v7)] [] σ := by
    intro nq
    induction nq with
    | zero => intro v4 v6 v7 hlt; exact absurd hlt (Nat.not_lt_zero _)
    | succ nq ih =>
      intro v4 v6 v7 hlt hI
      have h := hs v4 v6 v7 hI
      have hB18 : ∀ (v4' : Int64) (v6' : Int32) (v7' : Int32), (fun v4' v6' v7' => I18 v4' v6' v7' ∧ M18 v4' v6' v7' < M18 v4 v6 v7) v4' v6' v7' → zz_G p l e zrm7_partInLeastTerms s m args below meth c Q D A (wC ad cy) 8 18 [(2, .int v2), (3, .int v3), (4, .long v4'), (6, .int v6'), (7, .int v7')] [] σ := fun v4' v6' v7' hz => ih v4' v6' v7' (Nat.lt_of_lt_of_le hz.2 (Nat.le_of_lt_succ hlt)) hz.1
      refine zz_iload K 4 dX7_partInLeastTerms_18 rfl ?_
      refine zz_iload_n K 0 dX7_partInLeastTerms_20 rfl rfl ?_
      refine zz_icmp_ge K 52 dX7_partInLeastTerms_21 rfl (fun c7 => ?_) (fun c7 => ?_)
      · have h := (And.left h) c7
        refine zz_sub [1, 2, 3] [(3, .int v3), (4, .long v4), (6, .int v6)] rfl ?_
        exact zu7_partInLeastTerms_52 K hret h
      · have h := (And.right h) c7
        refine zz_lload K 2 dX7_partInLeastTerms_24 rfl ?_
        refine zz_ldc2 K zlk_X7_partInLeastTerms_1 dX7_partInLeastTerms_26 ?_
        refine zz_lrem K (by decide : ¬ (2 : Int64) = 0) dX7_partInLeastTerms_29 ?_
        refine zz_lconst K (v := (0 : Int64)) dX7_partInLeastTerms_30 rfl ?_
        refine zz_lcmp K dX7_partInLeastTerms_31 ?_
        refine zz_if_ne K 52 dX7_partInLeastTerms_32 rfl (fun c8 => ?_) (fun c8 => ?_)
        · have h := (And.left h) c8
          refine zz_sub [1, 2, 3] [(3, .int v3), (4, .long v4), (6, .int v6)] rfl ?_
          exact zu7_partInLeastTerms_52 K hret h
        · have h := (And.right h) c8
          refine zz_lload K 2 dX7_partInLeastTerms_35 rfl ?_
          refine zz_ldc2 K zlk_X7_partInLeastTerms_1 dX7_partInLeastTerms_37 ?_
          refine zz_ldiv K (by decide : ¬ (2 : Int64) = 0) dX7_partInLeastTerms_40 ?_
          refine zz_nml (fun x9 ex9 => ?_)
          have h := h x9 ex9
          refine zz_lstore K [(4, .long x9), (2, .int v2), (3, .int v3), (6, .int v6), (7, .int v7)] dX7_partInLeastTerms_41 (by decide) rfl ?_
          refine zz_iinc K 3 [(6, .int (v6 + (-1 : Int32))), (4, .long x9), (2, .int v2), (3, .int v3), (7, .int v7)] dX7_partInLeastTerms_43 zcCi_m1 rfl (by decide) rfl ?_
          refine zz_iinc K 4 [(7, .int (v7 + (1 : Int32))), (6, .int (v6 + (-1 : Int32))), (4, .long x9), (2, .int v2), (3, .int v3)] dX7_partInLeastTerms_46 zcCi_1 rfl (by decide) rfl ?_
          refine zz_goto K 18 dX7_partInLeastTerms_49 rfl ?_
          refine zz_sub [3, 4, 2, 1, 0] [(2, .int v2), (3, .int v3), (4, .long x9), (6, .int (v6 + (-1 : Int32))), (7, .int (v7 + (1 : Int32)))] rfl ?_
          exact hB18 x9 (v6 + (-1 : Int32)) (v7 + (1 : Int32)) h
  exact key _ v4 v6 v7 (Nat.lt_succ_self _) h0
set_option maxHeartbeats 4000000 in
set_option maxRecDepth 100000 in
theorem zu7_partInLeastTerms_0 {p : Program} {l : Launch} {e : Env} {s : State} {m : MethodId} {args : Array Value} {below : List Frame} {meth : Method} {c : Code} {Q : State → Prop} {D : va_G} {A : Nat → Prop} {ad : Nat → Nat} {cy : Nat → ClassId} {v0 : Int64} {v2 : Int32} {v3 : Int32} {σ : zz_St} (K : zz_K p s m args c cX7_partInLeastTerms 8 RX7 wsX7_partInLeastTerms D (tysC cy) A (wC ad cy) nwC) {Qp : Int64 → Prop} (hret : ∀ (r : Int64), Qp r → ∀ (pc : Nat) (lv : List (Nat × Value)), decode cX7_partInLeastTerms pc = .ok (.lreturn, 1) → zz_G p l e zrm7_partInLeastTerms s m args below meth c Q D A (wC ad cy) 8 pc lv [.long r] σ) (h : zq7_partInLeastTerms v0 v2 v3 Qp) : zz_G p l e zrm7_partInLeastTerms s m args below meth c Q D A (wC ad cy) 8 0 [(0, .long v0), (2, .int v2), (3, .int v3)] [] σ := by
  unfold zq7_partInLeastTerms at h
  refine zz_lload_n K 0 dX7_partInLeastTerms_0 rfl rfl ?_
  refine zz_lconst K (v := (0 : Int64)) dX7_partInLeastTerms_1 rfl ?_
  refine zz_lcmp K dX7_partInLeastTerms_2 ?_
  refine zz_if_ne K 9 dX7_partInLeastTerms_3 rfl (fun c10 => ?_) (fun c10 => ?_)
  · have h := (And.left h) c10
    refine zz_lload_n K 0 dX7_partInLeastTerms_9 rfl rfl ?_
    refine zz_lstore K [(4, .long v0), (0, .long v0), (2, .int v2), (3, .int v3)] dX7_partInLeastTerms_10 (by decide) rfl ?_
    refine zz_iload_n K 2 dX7_partInLeastTerms_12 rfl rfl ?_
    refine zz_istore K [(6, .int v2), (4, .long v0), (0, .long v0), (2, .int v2), (3, .int v3)] dX7_partInLeastTerms_13 (by decide) rfl ?_
    refine zz_iconst K dX7_partInLeastTerms_15 zcCi_0 ?_
    refine zz_istore K [(7, .int (0 : Int32)), (6, .int v2), (4, .long v0), (0, .long v0), (2, .int v2), (3, .int v3)] dX7_partInLeastTerms_16 (by decide) rfl ?_
    refine zz_sub [4, 5, 2, 1, 0] [(2, .int v2), (3, .int v3), (4, .long v0), (6, .int v2), (7, .int (0 : Int32))] rfl ?_
    exact zu7_partInLeastTerms_18 K hret h
  · have h := (And.right h) c10
    refine zz_iload_n K 2 dX7_partInLeastTerms_6 rfl rfl ?_
    refine zz_i2l K dX7_partInLeastTerms_7 ?_
    exact hret _ h _ _ dX7_partInLeastTerms_8
set_option maxRecDepth 100000 in
theorem zc7_partInLeastTerms (l : Launch) (D : va_G) (ad : Nat → Nat) (cy : Nat → ClassId) (v0 : Int64) (v2 : Int32) (v3 : Int32) (σ : zz_St) (Qp : Int64 → Prop) (h : zq7_partInLeastTerms v0 v2 v3 Qp) : zz_Ml l yX7_partInLeastTerms wsX7_partInLeastTerms zrm7_partInLeastTerms D (tysC cy) (wC ad cy) nwC [.long v0, .int v2, .int v3] σ (fun r σ2 => σ2 = σ ∧ Qp r) :=
  zz_Ml.of zz_nwC (wC_ad ad cy) (by decide +kernel) rfl ⟨rfl, rfl⟩ (Nat.le_of_ble_eq_true rfl) (fun p e s m args below meth c A QW K hret => zu7_partInLeastTerms_0 K  (fun r hq pc lv hd => hret r σ ⟨rfl, hq⟩ pc lv hd) h)
theorem zin_X7_likely_X7 : ∀ w ∈ wsX70, w ∈ wsX7_likely := fun w h => List.mem_cons_of_mem _ (List.mem_append_left _ (List.mem_append_left _ (List.mem_append_left _ (List.mem_append_right _ h))))
theorem zlk_X7_likely_1 : Cond.fieldLink RX7 26 "SolidsRolled" "world" "LSolidsRolled$World;" ∈ wsX7_likely := List.mem_of_getElem? (i := 1) rfl
theorem zin_X7_likely_X6 : ∀ w ∈ wsX60, w ∈ wsX7_likely := fun w h => List.mem_cons_of_mem _ (List.mem_append_left _ (List.mem_append_left _ (List.mem_append_right _ h)))
theorem zlk_X7_likely_2 : Cond.fieldLink RX7 163 "SolidsRolled$World" "kind" "I" ∈ wsX7_likely := List.mem_of_getElem? (i := 2) rfl
theorem zcCb_12 : (Int8.ofInt (12)).toInt32 = (12 : Int32) := by decide
theorem zlk_X7_likely_3 : Cond.fieldLink RX7 47 "SolidsRolled" "search" "LSolidsRolled$Search;" ∈ wsX7_likely := List.mem_of_getElem? (i := 3) rfl
theorem zdsC_yX7_partInLeastTerms_s : yX7_partInLeastTerms.cls ≠ "java/lang/invoke/MethodHandle" ∧ yX7_partInLeastTerms.cls ≠ "java/lang/invoke/VarHandle" ∧ (parseMethodDescriptor yX7_partInLeastTerms.desc).map (fun d => d.parameters.length) = some 3 := by decide +kernel
theorem zdsC_yX4_walksEndingAt_v : yX4_walksEndingAt.cls = RX4 ∧ yX4_walksEndingAt.cls ≠ "java/lang/invoke/MethodHandle" ∧ yX4_walksEndingAt.cls ≠ "java/lang/invoke/VarHandle" ∧ (parseMethodDescriptor yX4_walksEndingAt.desc).map (fun d => d.parameters.length) = some 3 := by decide +kernel
abbrev zrm7_likely : Room := { frames := 5, cells := 0, slots := 0, locals := 127 }
set_option maxHeartbeats 4000000 in
set_option maxRecDepth 100000 in
theorem zu7_likely_57 {p : Program} {l : Launch} {e : Env} {s : State} {m : MethodId} {args : Array Value} {below : List Frame} {meth : Method} {c : Code} {Q : State → Prop} {D : va_G} {A : Nat → Prop} {ad : Nat → Nat} {cy : Nat → ClassId}  {σ : zz_St} (K : zz_K p s m args c cX7_likely 4 RX7 wsX7_likely D (tysC cy) A (wC ad cy) nwC) {Qp : Int64 → zz_St → Prop} (hret : ∀ (r : Int64) (σ2 : zz_St), Qp r σ2 → ∀ (pc : Nat) (lv : List (Nat × Value)), decode cX7_likely pc = .ok (.lreturn, 1) → zz_G p l e zrm7_likely s m args below meth c Q D A (wC ad cy) 4 pc lv [.long r] σ2) (h : zq7_likely_57 σ Qp) : zz_G p l e zrm7_likely s m args below meth c Q D A (wC ad cy) 4 57 [(0, .ref (ad 0))] [] σ := by
  unfold zq7_likely_57 at h
  refine zz_aload_n K 0 dX7_likely_57 rfl rfl ?_
  refine zz_bipush K dX7_likely_58 zcCb_m2 ?_
  refine zz_callVl K zz_nwC [.int (-2 : Int32)] (zc7_refuseLong l D ad cy (-2 : Int32) σ _  h) gX7_likely_X7_refuseLong rfl ⟨rfl, rfl⟩ zdsC_yX7_refuseLong_v ⟨Nat.le_of_ble_eq_true rfl, Nat.le_of_ble_eq_true rfl⟩ (wC_at_0 ad cy σ) rfl rfl rfl rfl (Nat.le_of_ble_eq_true rfl) dX7_likely_60 (fun r22 g23 h => ?_)
  exact hret _ _ h _ _ dX7_likely_63
set_option maxHeartbeats 4000000 in
set_option maxRecDepth 100000 in
theorem zu7_likely_0 {p : Program} {l : Launch} {e : Env} {s : State} {m : MethodId} {args : Array Value} {below : List Frame} {meth : Method} {c : Code} {Q : State → Prop} {D : va_G} {A : Nat → Prop} {ad : Nat → Nat} {cy : Nat → ClassId} {v1 : Int32} {v2 : Int32} {v3 : Int32} {σ : zz_St} (K : zz_K p s m args c cX7_likely 4 RX7 wsX7_likely D (tysC cy) A (wC ad cy) nwC) {Qp : Int64 → zz_St → Prop} (hret : ∀ (r : Int64) (σ2 : zz_St), Qp r σ2 → ∀ (pc : Nat) (lv : List (Nat × Value)), decode cX7_likely pc = .ok (.lreturn, 1) → zz_G p l e zrm7_likely s m args below meth c Q D A (wC ad cy) 4 pc lv [.long r] σ2) (h : zq7_likely v1 v2 v3 σ Qp) : zz_G p l e zrm7_likely s m args below meth c Q D A (wC ad cy) 4 0 [(0, .ref (ad 0)), (1, .int v1), (2, .int v2), (3, .int v3)] [] σ := by
  unfold zq7_likely at h
  refine zz_aload_n K 0 dX7_likely_0 rfl rfl ?_
  refine zg7_0_0 K zin_X7_likely_X7 zlk_X7_likely_1 dX7_likely_1 ?_
  refine zz_aload_n K 0 dX7_likely_4 rfl rfl ?_
  refine zg7_0_0 K zin_X7_likely_X7 zlk_X7_likely_1 dX7_likely_5 ?_
  refine zg6_6_0 K zin_X7_likely_X6 zlk_X7_likely_2 dX7_likely_8 ?_
  refine zz_iload_n K 2 dX7_likely_11 rfl rfl ?_
  refine zz_callVi1 K zz_nwC [.int ((σ).1 6), .int v2] (zc6_hasPlace l D ad cy ((σ).1 6) v2 σ _  h) gX7_likely_X6_hasPlace rfl ⟨rfl, rfl⟩ zdsC_yX6_hasPlace_v ⟨Nat.le_of_ble_eq_true rfl, Nat.le_of_ble_eq_true rfl⟩ (wC_at_1 ad cy σ) rfl rfl rfl rfl (Nat.le_of_ble_eq_true rfl) dX7_likely_12 (fun r24 h => ?_)
  refine zz_if_ne K 24 dX7_likely_15 rfl (fun c25 => ?_) (fun c25 => ?_)
  · have h := (And.left h) c25
    refine zz_iload_n K 1 dX7_likely_24 rfl rfl ?_
    refine zz_if_ge K 35 dX7_likely_25 rfl (fun c26 => ?_) (fun c26 => ?_)
    · have h := (And.left h) c26
      refine zz_iload_n K 1 dX7_likely_35 rfl rfl ?_
      refine zz_bipush K dX7_likely_36 zcCb_12 ?_
      refine zz_icmp_le K 48 dX7_likely_38 rfl (fun c27 => ?_) (fun c27 => ?_)
      · have h := (And.left h) c27
        refine zz_iload_n K 3 dX7_likely_48 rfl rfl ?_
        refine zz_if_lt K 57 dX7_likely_49 rfl (fun c28 => ?_) (fun c28 => ?_)
        · have h := (And.left h) c28
          refine zz_sub [0] [(0, .ref (ad 0))] rfl ?_
          exact zu7_likely_57 K hret h
        · have h := (And.right h) c28
          refine zz_iload_n K 3 dX7_likely_52 rfl rfl ?_
          refine zz_iconst K dX7_likely_53 zcCi_1 ?_
          refine zz_icmp_le K 64 dX7_likely_54 rfl (fun c29 => ?_) (fun c29 => ?_)
          · have h := (And.left h) c29
            refine zz_aload_n K 0 dX7_likely_64 rfl rfl ?_
            refine zg7_0_0 K zin_X7_likely_X7 zlk_X7_likely_1 dX7_likely_65 ?_
            refine zz_callVi1 K zz_nwC [] (zc6_isNone l D ad cy  σ _  h) gX7_likely_X6_isNone rfl ⟨rfl, rfl⟩ zdsC_yX6_isNone_v ⟨Nat.le_of_ble_eq_true rfl, Nat.le_of_ble_eq_true rfl⟩ (wC_at_1 ad cy σ) rfl rfl rfl rfl (Nat.le_of_ble_eq_true rfl) dX7_likely_68 (fun r30 h => ?_)
            refine zz_if_eq K 81 dX7_likely_71 rfl (fun c31 => ?_) (fun c31 => ?_)
            · have h := (And.left h) c31
              refine zz_aload_n K 0 dX7_likely_81 rfl rfl ?_
              refine zg7_4_0 K zin_X7_likely_X7 zlk_X7_likely_3 dX7_likely_82 ?_
              refine zz_aload_n K 0 dX7_likely_85 rfl rfl ?_
              refine zg7_0_0 K zin_X7_likely_X7 zlk_X7_likely_1 dX7_likely_86 ?_
              refine zz_iload_n K 1 dX7_likely_89 rfl rfl ?_
              refine zz_iload_n K 2 dX7_likely_90 rfl rfl ?_
              refine zz_callVl K zz_nwC [.ref (ad 1), .int v1, .int v2] (zc4_walksEndingAt l D ad cy v1 v2 σ _  h) gX7_likely_X4_walksEndingAt rfl ⟨rfl, rfl⟩ zdsC_yX4_walksEndingAt_v ⟨Nat.le_of_ble_eq_true rfl, Nat.le_of_ble_eq_true rfl⟩ (wC_at_4 ad cy σ) rfl rfl rfl rfl (Nat.le_of_ble_eq_true rfl) dX7_likely_91 (fun r32 g33 h => ?_)
              refine zz_iconst K dX7_likely_94 zcCi_2 ?_
              refine zz_iload_n K 1 dX7_likely_95 rfl rfl ?_
              refine zz_imul K dX7_likely_96 ?_
              refine zz_iload_n K 3 dX7_likely_97 rfl rfl ?_
              refine zz_callSl1 K zz_nwC [.long r32, .int ((2 : Int32) * v1), .int v3] (zc7_partInLeastTerms l D ad cy r32 ((2 : Int32) * v1) v3 g33 _  h) gX7_likely_X7_partInLeastTerms rfl ⟨rfl, rfl⟩ zdsC_yX7_partInLeastTerms_s ⟨Nat.le_of_ble_eq_true rfl, Nat.le_of_ble_eq_true rfl⟩ rfl rfl (Nat.le_of_ble_eq_true rfl) dX7_likely_98 (fun r34 h => ?_)
              exact hret _ _ h _ _ dX7_likely_101
            · have h := (And.right h) c31
              refine zz_aload_n K 0 dX7_likely_74 rfl rfl ?_
              refine zz_bipush K dX7_likely_75 zcCb_m3 ?_
              refine zz_callVl K zz_nwC [.int (-3 : Int32)] (zc7_refuseLong l D ad cy (-3 : Int32) σ _  h) gX7_likely_X7_refuseLong rfl ⟨rfl, rfl⟩ zdsC_yX7_refuseLong_v ⟨Nat.le_of_ble_eq_true rfl, Nat.le_of_ble_eq_true rfl⟩ (wC_at_0 ad cy σ) rfl rfl rfl rfl (Nat.le_of_ble_eq_true rfl) dX7_likely_77 (fun r35 g36 h => ?_)
              exact hret _ _ h _ _ dX7_likely_80
          · have h := (And.right h) c29
            refine zz_sub [0] [(0, .ref (ad 0))] rfl ?_
            exact zu7_likely_57 K hret h
      · have h := (And.right h) c27
        refine zz_aload_n K 0 dX7_likely_41 rfl rfl ?_
        refine zz_bipush K dX7_likely_42 zcCb_m6 ?_
        refine zz_callVl K zz_nwC [.int (-6 : Int32)] (zc7_refuseLong l D ad cy (-6 : Int32) σ _  h) gX7_likely_X7_refuseLong rfl ⟨rfl, rfl⟩ zdsC_yX7_refuseLong_v ⟨Nat.le_of_ble_eq_true rfl, Nat.le_of_ble_eq_true rfl⟩ (wC_at_0 ad cy σ) rfl rfl rfl rfl (Nat.le_of_ble_eq_true rfl) dX7_likely_44 (fun r37 g38 h => ?_)
        exact hret _ _ h _ _ dX7_likely_47
    · have h := (And.right h) c26
      refine zz_aload_n K 0 dX7_likely_28 rfl rfl ?_
      refine zz_bipush K dX7_likely_29 zcCb_m4 ?_
      refine zz_callVl K zz_nwC [.int (-4 : Int32)] (zc7_refuseLong l D ad cy (-4 : Int32) σ _  h) gX7_likely_X7_refuseLong rfl ⟨rfl, rfl⟩ zdsC_yX7_refuseLong_v ⟨Nat.le_of_ble_eq_true rfl, Nat.le_of_ble_eq_true rfl⟩ (wC_at_0 ad cy σ) rfl rfl rfl rfl (Nat.le_of_ble_eq_true rfl) dX7_likely_31 (fun r39 g40 h => ?_)
      exact hret _ _ h _ _ dX7_likely_34
  · have h := (And.right h) c25
    refine zz_aload_n K 0 dX7_likely_18 rfl rfl ?_
    refine zz_iconst K dX7_likely_19 zcCi_m1 ?_
    refine zz_callVl K zz_nwC [.int (-1 : Int32)] (zc7_refuseLong l D ad cy (-1 : Int32) σ _  h) gX7_likely_X7_refuseLong rfl ⟨rfl, rfl⟩ zdsC_yX7_refuseLong_v ⟨Nat.le_of_ble_eq_true rfl, Nat.le_of_ble_eq_true rfl⟩ (wC_at_0 ad cy σ) rfl rfl rfl rfl (Nat.le_of_ble_eq_true rfl) dX7_likely_20 (fun r41 g42 h => ?_)
    exact hret _ _ h _ _ dX7_likely_23
set_option maxRecDepth 100000 in
theorem zc7_likely (l : Launch) (D : va_G) (ad : Nat → Nat) (cy : Nat → ClassId) (v1 : Int32) (v2 : Int32) (v3 : Int32) (σ : zz_St) (Qp : Int64 → zz_St → Prop) (h : zq7_likely v1 v2 v3 σ Qp) : zz_Ml l yX7_likely wsX7_likely zrm7_likely D (tysC cy) (wC ad cy) nwC [.ref (ad 0), .int v1, .int v2, .int v3] σ Qp :=
  zz_Ml.of zz_nwC (wC_ad ad cy) (by decide +kernel) rfl ⟨rfl, rfl⟩ (Nat.le_of_ble_eq_true rfl) (fun p e s m args below meth c A QW K hret => zu7_likely_0 K  hret h)
