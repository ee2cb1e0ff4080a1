theorem lw_cmp {i L : Nat} (hi : i ≤ 2048) (hL : L ≤ 2048) : Int32.ofNat L - 4 < nI i ↔ L < i + 4 := by
  have e : (nI L - nI 4).toInt = (L : Int) - 4 := pk_sub_toInt (by omega) (by decide)
  show nI L - nI 4 < nI i ↔ L < i + 4
  rw [Int32.lt_iff_toInt_lt, e, nI_toInt (by omega)]
  omega
set_option maxHeartbeats 4000000 in
set_option maxRecDepth 100000 in
theorem law_loop {p : Program} {l : Launch} {e : Env} {s : State} {m : MethodId} {args : Array Value} {below : List Frame} {meth : Method} {c : Code} {Q : State → Prop} {D : va_G} {A : Nat → Prop} {ad ad2 : Nat → Nat} {cy cy2 : Nat → ClassId} {b L nc ns : Nat} {xs : Nat → Int32} (K : zr_K p s m args c cL_law 4 RL wsL_law D (tysC cy ++ tysM cy2) A) (hNw : ∀ w ∈ nwC, va_Nw w s) (hcnt : nc ≤ room_1.cells ∧ ns ≤ room_1.slots) (hX : va_X b L xs s s.heap) (hbl : b < s.heap.size) (hbA : ¬ A b) (hL : L ≤ 2048) (fin : ∀ (σ τ : zz_St) (i : Nat), zr_G p l e room_1 s m args below meth c Q D A 4 nc ns 1125 [(3, .int (nI i)), (2, .ref (ad2 0)), (1, .ref (ad 0)), (0, .ref b)] [] (wC ad cy τ ++ wM ad2 cy2 σ)) : ∀ n i, L ≤ i + n → i ≤ L → ∀ σ τ : zz_St, Rel σ τ → zr_G p l e room_1 s m args below meth c Q D A 4 nc ns 18 [(3, .int (nI i)), (2, .ref (ad2 0)), (1, .ref (ad 0)), (0, .ref b)] [] (wC ad cy τ ++ wM ad2 cy2 σ) := by
  intro n
  induction n using Nat.strongRecOn with
  | ind n ih =>
    intro i hn hiL σ τ h
    refine zr_iload_n K 0 dL_law_18 rfl rfl ?_
    refine zr_aload_n K 3 dL_law_19 rfl rfl ?_
    refine zr_slen K hX hbl hbA dL_law_20 ?_
    refine zr_iconst K dL_law_21 (by decide : _ = (4 : Int32)) ?_
    refine zr_isub K dL_law_22 ?_
    refine zr_icmp_gt K 1125 dL_law_23 rfl (fun _ => fin σ τ i) (fun hlt => ?_)
    rw [lw_cmp (by omega) hL] at hlt
    have hi : i + 4 ≤ L := by omega
    have next : ∀ σ2 τ2 : zz_St, Rel σ2 τ2 → zr_G p l e room_1 s m args below meth c Q D A 4 nc ns 1119 [(3, .int (nI i)), (2, .ref (ad2 0)), (1, .ref (ad 0)), (0, .ref b)] [] (wC ad cy τ2 ++ wM ad2 cy2 σ2) := by
      intro σ2 τ2 h2
      refine zr_iinc K (cst := 4) 0 [(3, .int (nI i + 4)), (2, .ref (ad2 0)), (1, .ref (ad 0)), (0, .ref b)] dL_law_1119 (by decide) rfl (by decide) rfl ?_
      refine zr_goto K 18 dL_law_1122 rfl ?_
      rw [show nI i + 4 = nI (i + 4) from nI_add i 4]
      exact ih (n - 4) (by omega) (i + 4) (by omega) hi σ2 τ2 h2
    refine zr_aload_n K 3 dL_law_26 rfl rfl ?_
    refine zr_iload_n K 0 dL_law_27 rfl rfl ?_
    refine zr_sld K hX hbl hbA (vp_in_nI (by omega) (by omega)) dL_law_28 ?_
    refine zr_bipush K dL_law_29 (by decide : _ = (63 : Int32)) ?_
    refine zr_iand K dL_law_31 ?_
    refine zr_nmi (fun z ez => ?_)
    by_cases c0 : z = (0 : Int32)
    · refine zr_tin K (0) 184 dL_law_32 (by rw [c0]; decide) (by decide) (by decide) rfl rfl ?_
      exact law_0 K hNw hcnt hX hbl hbA hi hL h next
    by_cases c1 : z = (1 : Int32)
    · refine zr_tin K (1) 207 dL_law_32 (by rw [c1]; decide) (by decide) (by decide) rfl rfl ?_
      exact law_1 K hNw hcnt hX hbl hbA hi hL h next
    by_cases c2 : z = (2 : Int32)
    · refine zr_tin K (2) 220 dL_law_32 (by rw [c2]; decide) (by decide) (by decide) rfl rfl ?_
      exact law_2 K hNw hcnt hX hbl hbA hi hL h next
    by_cases c3 : z = (3 : Int32)
    · refine zr_tin K (3) 253 dL_law_32 (by rw [c3]; decide) (by decide) (by decide) rfl rfl ?_
      exact law_3 K hNw hcnt hX hbl hbA hi hL h next
    by_cases c4 : z = (4 : Int32)
    · refine zr_tin K (4) 286 dL_law_32 (by rw [c4]; decide) (by decide) (by decide) rfl rfl ?_
      exact law_4 K hNw hcnt hX hbl hbA hi hL h next
    by_cases c5 : z = (5 : Int32)
    · refine zr_tin K (5) 319 dL_law_32 (by rw [c5]; decide) (by decide) (by decide) rfl rfl ?_
      exact law_5 K hNw hcnt hX hbl hbA hi hL h next
    by_cases c6 : z = (6 : Int32)
    · refine zr_tin K (6) 342 dL_law_32 (by rw [c6]; decide) (by decide) (by decide) rfl rfl ?_
      exact law_6 K hNw hcnt hX hbl hbA hi hL h next
    by_cases c7 : z = (7 : Int32)
    · refine zr_tin K (7) 355 dL_law_32 (by rw [c7]; decide) (by decide) (by decide) rfl rfl ?_
      exact law_7 K hNw hcnt hX hbl hbA hi hL h next
    by_cases c8 : z = (8 : Int32)
    · refine zr_tin K (8) 378 dL_law_32 (by rw [c8]; decide) (by decide) (by decide) rfl rfl ?_
      exact law_8 K hNw hcnt hX hbl hbA hi hL h next
    by_cases c9 : z = (9 : Int32)
    · refine zr_tin K (9) 401 dL_law_32 (by rw [c9]; decide) (by decide) (by decide) rfl rfl ?_
      exact law_9 K hNw hcnt hX hbl hbA hi hL h next
    by_cases c10 : z = (10 : Int32)
    · refine zr_tin K (10) 414 dL_law_32 (by rw [c10]; decide) (by decide) (by decide) rfl rfl ?_
      exact law_10 K hNw hcnt hX hbl hbA hi hL h next
    by_cases c11 : z = (11 : Int32)
    · refine zr_tin K (11) 427 dL_law_32 (by rw [c11]; decide) (by decide) (by decide) rfl rfl ?_
      exact law_11 K hNw hcnt hX hbl hbA hi hL h next
    by_cases c12 : z = (12 : Int32)
    · refine zr_tin K (12) 440 dL_law_32 (by rw [c12]; decide) (by decide) (by decide) rfl rfl ?_
      exact law_12 K hNw hcnt hX hbl hbA hi hL h next
    by_cases c13 : z = (13 : Int32)
    · refine zr_tin K (13) 453 dL_law_32 (by rw [c13]; decide) (by decide) (by decide) rfl rfl ?_
      exact law_13 K hNw hcnt hX hbl hbA hi hL h next
    by_cases c14 : z = (14 : Int32)
    · refine zr_tin K (14) 476 dL_law_32 (by rw [c14]; decide) (by decide) (by decide) rfl rfl ?_
      exact law_14 K hNw hcnt hX hbl hbA hi hL h next
    by_cases c15 : z = (15 : Int32)
    · refine zr_tin K (15) 509 dL_law_32 (by rw [c15]; decide) (by decide) (by decide) rfl rfl ?_
      exact law_15 K hNw hcnt hX hbl hbA hi hL h next
    by_cases c16 : z = (16 : Int32)
    · refine zr_tin K (16) 552 dL_law_32 (by rw [c16]; decide) (by decide) (by decide) rfl rfl ?_
      exact law_16 K hNw hcnt hX hbl hbA hi hL h next
    by_cases c17 : z = (17 : Int32)
    · refine zr_tin K (17) 575 dL_law_32 (by rw [c17]; decide) (by decide) (by decide) rfl rfl ?_
      exact law_17 K hNw hcnt hX hbl hbA hi hL h next
    by_cases c18 : z = (18 : Int32)
    · refine zr_tin K (18) 598 dL_law_32 (by rw [c18]; decide) (by decide) (by decide) rfl rfl ?_
      exact law_18 K hNw hcnt hX hbl hbA hi hL h next
    by_cases c19 : z = (19 : Int32)
    · refine zr_tin K (19) 622 dL_law_32 (by rw [c19]; decide) (by decide) (by decide) rfl rfl ?_
      exact law_19 K hNw hcnt hX hbl hbA hi hL h next
    by_cases c20 : z = (20 : Int32)
    · refine zr_tin K (20) 655 dL_law_32 (by rw [c20]; decide) (by decide) (by decide) rfl rfl ?_
      exact law_20 K hNw hcnt hX hbl hbA hi hL h next
    by_cases c21 : z = (21 : Int32)
    · refine zr_tin K (21) 699 dL_law_32 (by rw [c21]; decide) (by decide) (by decide) rfl rfl ?_
      exact law_21 K hNw hcnt hX hbl hbA hi hL h next
    by_cases c22 : z = (22 : Int32)
    · refine zr_tin K (22) 742 dL_law_32 (by rw [c22]; decide) (by decide) (by decide) rfl rfl ?_
      exact law_22 K hNw hcnt hX hbl hbA hi hL h next
    by_cases c23 : z = (23 : Int32)
    · refine zr_tin K (23) 775 dL_law_32 (by rw [c23]; decide) (by decide) (by decide) rfl rfl ?_
      exact law_23 K hNw hcnt hX hbl hbA hi hL h next
    by_cases c24 : z = (24 : Int32)
    · refine zr_tin K (24) 818 dL_law_32 (by rw [c24]; decide) (by decide) (by decide) rfl rfl ?_
      exact law_24 K hNw hcnt hX hbl hbA hi hL h next
    by_cases c25 : z = (25 : Int32)
    · refine zr_tin K (25) 852 dL_law_32 (by rw [c25]; decide) (by decide) (by decide) rfl rfl ?_
      exact law_25 K hNw hcnt hX hbl hbA hi hL h next
    by_cases c26 : z = (26 : Int32)
    · refine zr_tin K (26) 885 dL_law_32 (by rw [c26]; decide) (by decide) (by decide) rfl rfl ?_
      exact law_26 K hNw hcnt hX hbl hbA hi hL h next
    by_cases c27 : z = (27 : Int32)
    · refine zr_tin K (27) 908 dL_law_32 (by rw [c27]; decide) (by decide) (by decide) rfl rfl ?_
      exact law_27 K hNw hcnt hX hbl hbA hi hL h next
    by_cases c28 : z = (28 : Int32)
    · refine zr_tin K (28) 951 dL_law_32 (by rw [c28]; decide) (by decide) (by decide) rfl rfl ?_
      exact law_28 K hNw hcnt hX hbl hbA hi hL h next
    by_cases c29 : z = (29 : Int32)
    · refine zr_tin K (29) 994 dL_law_32 (by rw [c29]; decide) (by decide) (by decide) rfl rfl ?_
      exact law_29 K hNw hcnt hX hbl hbA hi hL h next
    by_cases c30 : z = (30 : Int32)
    · refine zr_tin K (30) 1037 dL_law_32 (by rw [c30]; decide) (by decide) (by decide) rfl rfl ?_
      exact law_30 K hNw hcnt hX hbl hbA hi hL h next
    by_cases c31 : z = (31 : Int32)
    · refine zr_tin K (31) 1070 dL_law_32 (by rw [c31]; decide) (by decide) (by decide) rfl rfl ?_
      exact law_31 K hNw hcnt hX hbl hbA hi hL h next
    by_cases c32 : z = (32 : Int32)
    · refine zr_tin K (32) 1083 dL_law_32 (by rw [c32]; decide) (by decide) (by decide) rfl rfl ?_
      exact law_32 K hNw hcnt hX hbl hbA hi hL h next
    by_cases c33 : z = (33 : Int32)
    · refine zr_tin K (33) 1096 dL_law_32 (by rw [c33]; decide) (by decide) (by decide) rfl rfl ?_
      exact law_33 K hNw hcnt hX hbl hbA hi hL h next
    refine zr_tout K 1119 dL_law_32 (zz_tsw z (0) (33) (fun z2 h1 h2 => by
      have hz : z2 = 0 ∨ z2 = 1 ∨ z2 = 2 ∨ z2 = 3 ∨ z2 = 4 ∨ z2 = 5 ∨ z2 = 6 ∨ z2 = 7 ∨ z2 = 8 ∨ z2 = 9 ∨ z2 = 10 ∨ z2 = 11 ∨ z2 = 12 ∨ z2 = 13 ∨ z2 = 14 ∨ z2 = 15 ∨ z2 = 16 ∨ z2 = 17 ∨ z2 = 18 ∨ z2 = 19 ∨ z2 = 20 ∨ z2 = 21 ∨ z2 = 22 ∨ z2 = 23 ∨ z2 = 24 ∨ z2 = 25 ∨ z2 = 26 ∨ z2 = 27 ∨ z2 = 28 ∨ z2 = 29 ∨ z2 = 30 ∨ z2 = 31 ∨ z2 = 32 ∨ z2 = 33 := by omega
      rcases hz with rfl | rfl | rfl | rfl | rfl | rfl | rfl | rfl | rfl | rfl | rfl | rfl | rfl | rfl | rfl | rfl | rfl | rfl | rfl | rfl | rfl | rfl | rfl | rfl | rfl | rfl | rfl | rfl | rfl | rfl | rfl | rfl | rfl | rfl <;> intro q
      · exact c0 (Int32.toInt_inj.mp (q.trans (by decide)))
      · exact c1 (Int32.toInt_inj.mp (q.trans (by decide)))
      · exact c2 (Int32.toInt_inj.mp (q.trans (by decide)))
      · exact c3 (Int32.toInt_inj.mp (q.trans (by decide)))
      · exact c4 (Int32.toInt_inj.mp (q.trans (by decide)))
      · exact c5 (Int32.toInt_inj.mp (q.trans (by decide)))
      · exact c6 (Int32.toInt_inj.mp (q.trans (by decide)))
      · exact c7 (Int32.toInt_inj.mp (q.trans (by decide)))
      · exact c8 (Int32.toInt_inj.mp (q.trans (by decide)))
      · exact c9 (Int32.toInt_inj.mp (q.trans (by decide)))
      · exact c10 (Int32.toInt_inj.mp (q.trans (by decide)))
      · exact c11 (Int32.toInt_inj.mp (q.trans (by decide)))
      · exact c12 (Int32.toInt_inj.mp (q.trans (by decide)))
      · exact c13 (Int32.toInt_inj.mp (q.trans (by decide)))
      · exact c14 (Int32.toInt_inj.mp (q.trans (by decide)))
      · exact c15 (Int32.toInt_inj.mp (q.trans (by decide)))
      · exact c16 (Int32.toInt_inj.mp (q.trans (by decide)))
      · exact c17 (Int32.toInt_inj.mp (q.trans (by decide)))
      · exact c18 (Int32.toInt_inj.mp (q.trans (by decide)))
      · exact c19 (Int32.toInt_inj.mp (q.trans (by decide)))
      · exact c20 (Int32.toInt_inj.mp (q.trans (by decide)))
      · exact c21 (Int32.toInt_inj.mp (q.trans (by decide)))
      · exact c22 (Int32.toInt_inj.mp (q.trans (by decide)))
      · exact c23 (Int32.toInt_inj.mp (q.trans (by decide)))
      · exact c24 (Int32.toInt_inj.mp (q.trans (by decide)))
      · exact c25 (Int32.toInt_inj.mp (q.trans (by decide)))
      · exact c26 (Int32.toInt_inj.mp (q.trans (by decide)))
      · exact c27 (Int32.toInt_inj.mp (q.trans (by decide)))
      · exact c28 (Int32.toInt_inj.mp (q.trans (by decide)))
      · exact c29 (Int32.toInt_inj.mp (q.trans (by decide)))
      · exact c30 (Int32.toInt_inj.mp (q.trans (by decide)))
      · exact c31 (Int32.toInt_inj.mp (q.trans (by decide)))
      · exact c32 (Int32.toInt_inj.mp (q.trans (by decide)))
      · exact c33 (Int32.toInt_inj.mp (q.trans (by decide))))) rfl ?_
    exact next σ τ h
