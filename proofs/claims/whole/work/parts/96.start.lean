theorem zr_aq {p : Program} {l : Launch} {e : Env} {R : Room} {s : State} {m : MethodId} {args : Array Value} {below : List Frame} {meth : Method} {c : Code} {Q : State → Prop} {D : va_G} {A : Nat → Prop} {nL nc ns : Nat} {pc : Nat} {lv : List (Nat × Value)} {st : List Value} {ws : va_W} {q k : Nat} {x : va_E} (he : ws[k]? = some (q, x)) (kk : A q → zr_G p l e R s m args below meth c Q D A nL nc ns pc lv st ws) : zr_G p l e R s m args below meth c Q D A nL nc ns pc lv st ws :=
  fun H locs ls hP hD hS hl => kk (hD.2 k _ he) H locs ls hP hD hS hl
theorem zlen_small {args : Array Value} {s : State} {t : Term} {v : Value} (h : (Term.length t).eval args s none [] s = some v) : ∃ b cell, t.eval args s none [] s = some (.ref b) ∧ s.arrayAt? b = some cell ∧ cell.slots.size < 2 ^ 31 ∧ v = .int cell.slots.size.toInt32 := by
  simp only [Term.eval, Option.bind_eq_bind] at h
  cases ht : t.eval args s none [] s with
  | none => simp [ht] at h
  | some x =>
    cases x <;> simp only [ht, Option.bind_some] at h <;> try cases h
    rename_i b
    cases ha : s.arrayAt? b with
    | none => simp [ha] at h
    | some cell =>
      simp only [ha, Option.bind_some] at h
      by_cases hs : cell.slots.size < 2 ^ 31
      · rw [if_pos hs] at h; cases h; exact ⟨b, cell, rfl, ha, hs, rfl⟩
      · rw [if_neg hs] at h; cases h
theorem zX_of {args : Array Value} {s : State} {tm : Term} {N : Nat} {f : Nat → Int32} (hN : N < 2 ^ 31) (harr : (Cond.arrayOf tm .int).before args s = true) (hlen : (Term.length tm).eval args s none [] s = some (.int (Int32.ofNat N))) (hel : ∀ j : Nat, j < N → (Term.elem tm (.int (Int32.ofNat j))).eval args s none [] s = some (.int (f j))) : ∃ t : Nat, tm.eval args s none [] s = some (.ref t) ∧ zX t N f s := by
  obtain ⟨t, ht, cell, hc, hof, hkn, hsz, hsi, hj, _⟩ := va_Tof (A := fun _ => False) (f := fun j => .int (f j)) hN harr hlen hel (fun _ _ h => h)
  obtain ⟨b2, cell2, h1, h2, h3, h4⟩ := zlen_small hlen
  cases ht.symm.trans h1
  obtain ⟨hc2, -, -, -⟩ := State.arrayAt?_spec h2
  cases hc.symm.trans hc2
  have e : cell.slots.size = N := (nI_eq h3 hN).mp hsi
  exact ⟨t, ht, ⟨cell, hc, hof, hkn, e, hj⟩, (Array.getElem?_eq_some_iff.mp hc).1⟩
theorem zAI {args : Array Value} {s : State} {ty : FieldType} (h : (Cond.arrayClass ty).before args s = true) (hty : ∀ C, ¬ ty = .object C) : ∃ cA : ClassId, ArrOfT s cA ty ∧ va_RA s cA ty := by
  obtain ⟨cA, kA, comp, h1, h2, h3⟩ := Cond.arrayClass_spec h
  refine ⟨cA, fun n z => ⟨fun k h => (by cases h), kA, h2, comp, h3⟩, ?_⟩
  unfold va_RA
  cases ty with
  | object C => exact absurd rfl (hty C)
  | _ => exact h1
theorem zAO {s : State} {C : String} (h : va_AO C s) : ∃ cA : ClassId, ArrOfT s cA (.object C) ∧ va_RA s cA (.object C) := by
  obtain ⟨comp, cA, kA, h1, _, h3, h4, h5⟩ := Cond.arrayOver_spec h
  exact ⟨cA, fun n z => ⟨fun k h => (by cases h), kA, h3, comp, h4⟩, kA, comp, h3, h4, h1, h5⟩
theorem zdsS_yX7_init_s : yX7_init.cls ≠ "java/lang/invoke/MethodHandle" ∧ yX7_init.cls ≠ "java/lang/invoke/VarHandle" ∧ (parseMethodDescriptor yX7_init.desc).map (fun d => d.parameters.length) = some 0 := by decide +kernel
theorem zdsS_yX8_init_s : yX8_init.cls ≠ "java/lang/invoke/MethodHandle" ∧ yX8_init.cls ≠ "java/lang/invoke/VarHandle" ∧ (parseMethodDescriptor yX8_init.desc).map (fun d => d.parameters.length) = some 0 := by decide +kernel
set_option maxHeartbeats 8000000 in
set_option maxRecDepth 100000 in
theorem whole_start {p : Program} {e : Env} {s : State} {m : MethodId} {below : List Frame} {meth : Method} {c : Code} (l : Launch) (hflags : l.flags = flags0) {b L : Nat} {xs : Nat → Int32} (hL : L ≤ 2048) (C0 : lw_At p s m meth c b L xs) : W p l e room_1 s m #[Value.ref b] below meth c s.heap [] 0 0 (lw_Z below #[Value.ref b] s) (entryFrame m ([Value.ref b] : List Value).toArray 4) := by
  obtain ⟨hx, hb, hr, hml, hown, hts, hX, hbl, hlocks, hgv⟩ := id C0
  have htl : ∀ w ∈ wsL_law, w.before #[Value.ref b] s = true := fun w hw => hts w (wsL_law_in w hw)
  have hA : ∀ q : Nat, s.heap.size ≤ q → (fun q : Nat => s.heap.size ≤ q) q := fun _ h => h
  have hbA : ¬ (fun q : Nat => s.heap.size ≤ q) b := Nat.not_le.mpr hbl
  obtain ⟨c0, i0, k0⟩ := u_known (C := RX0) (T := TX0) (N := 4) (n := 4) hts inX0 (hts (.instantiable RX0 4) (List.mem_of_getElem? (i := 226) (by decide +kernel)))
  obtain ⟨c1, i1, k1⟩ := u_known (C := RX1) (T := TX1) (N := 2) (n := 2) hts inX1 (hts (.instantiable RX1 2) (List.mem_of_getElem? (i := 178) (by decide +kernel)))
  obtain ⟨c2, i2, k2⟩ := u_known (C := RX2) (T := TX2) (N := 4) (n := 4) hts inX2 (hts (.instantiable RX2 4) (List.mem_of_getElem? (i := 263) (by decide +kernel)))
  obtain ⟨c3, i3, k3⟩ := u_known (C := RX3) (T := TX3) (N := 2) (n := 2) hts inX3 (hts (.instantiable RX3 2) (List.mem_of_getElem? (i := 247) (by decide +kernel)))
  obtain ⟨c4, i4, k4⟩ := u_known (C := RX4) (T := TX4) (N := 8) (n := 8) hts inX4 (hts (.instantiable RX4 8) (List.mem_of_getElem? (i := 193) (by decide +kernel)))
  obtain ⟨c5, i5, k5⟩ := u_known (C := RX5) (T := TX5) (N := 6) (n := 6) hts inX5 (hts (.instantiable RX5 6) (List.mem_of_getElem? (i := 84) (by decide +kernel)))
  obtain ⟨c6, i6, k6⟩ := u_known (C := RX6) (T := TX6) (N := 9) (n := 9) hts inX6 (hts (.instantiable RX6 9) (List.mem_of_getElem? (i := 130) (by decide +kernel)))
  obtain ⟨c7, i7, k7⟩ := u_known (C := RX7) (T := TX7) (N := 9) (n := 9) hts inX7 (hts (.instantiable RX7 9) (List.mem_of_getElem? (i := 76) (by decide +kernel)))
  obtain ⟨c8, i8, k8⟩ := u_known (C := RX8) (T := TX8) (N := 48) (n := 48) hts inX8 (hts (.instantiable RX8 48) (List.mem_of_getElem? (i := 812) (by decide +kernel)))
  obtain ⟨dC, dI, hKc⟩ : ∃ (dC : Nat → ClassId) (dI : Nat → Nat → Nat), ∀ (k : Nat) (q : vw_C), vwCl[k]? = some q → u_Kn s q.1 q.2.1 q.2.2 (dC k) (dI k) := by
    refine ⟨fun k => if k = 0 then c0 else if k = 1 then c1 else if k = 2 then c2 else if k = 3 then c3 else if k = 4 then c4 else if k = 5 then c5 else if k = 6 then c6 else if k = 7 then c7 else c8, fun k => if k = 0 then i0 else if k = 1 then i1 else if k = 2 then i2 else if k = 3 then i3 else if k = 4 then i4 else if k = 5 then i5 else if k = 6 then i6 else if k = 7 then i7 else i8, ?_⟩
    intro k q hq
    match k, hq with
    | 0, hq => cases hq; exact k0
    | 1, hq => cases hq; exact k1
    | 2, hq => cases hq; exact k2
    | 3, hq => cases hq; exact k3
    | 4, hq => cases hq; exact k4
    | 5, hq => cases hq; exact k5
    | 6, hq => cases hq; exact k6
    | 7, hq => cases hq; exact k7
    | 8, hq => cases hq; exact k8
    | k + 9, hq => cases hq
  have aoR : va_AO RX3 s := va_AO.of (hts (.arrayOver (.object RX3)) (List.mem_of_getElem? (i := 246) (by decide +kernel)))
  have aoK : va_AO RX2 s := va_AO.of (hts (.arrayOver (.object RX2)) (List.mem_of_getElem? (i := 262) (by decide +kernel)))
  obtain ⟨cI, aI1, aI2⟩ := zAI (hts (.arrayClass .int) (List.mem_of_getElem? (i := 126) (by decide +kernel))) (fun _ h => by cases h)
  obtain ⟨cJ, aJ1, aJ2⟩ := zAI (hts (.arrayClass .long) (List.mem_of_getElem? (i := 962) (by decide +kernel))) (fun _ h => by cases h)
  obtain ⟨cZ, aZ1, aZ2⟩ := zAI (hts (.arrayClass .boolean) (List.mem_of_getElem? (i := 961) (by decide +kernel))) (fun _ h => by cases h)
  obtain ⟨cR, aR1, aR2⟩ := zAO aoR
  obtain ⟨cQ, aQ1, aQ2⟩ := zAO aoK
  obtain ⟨cy, y0, y1, y2⟩ : ∃ cy : Nat → ClassId, cy 0 = cI ∧ cy 1 = cR ∧ cy 2 = cQ := ⟨fun k => if k = 0 then cI else if k = 1 then cR else cQ, rfl, rfl, rfl⟩
  obtain ⟨cy2, z0, z1, z2⟩ : ∃ cy2 : Nat → ClassId, cy2 0 = cI ∧ cy2 1 = cJ ∧ cy2 2 = cZ := ⟨fun k => if k = 0 then cI else if k = 1 then cJ else cZ, rfl, rfl, rfl⟩
  have hK : va_K (dC, dI) vwCl (tysC cy ++ tysM cy2) s := by
    refine ⟨hKc, fun k q hq => ?_⟩
    match k, hq with
    | 0, hq => cases hq; rw [y0]; exact ⟨aI1, aI2⟩
    | 1, hq => cases hq; rw [y1]; exact ⟨aR1, aR2⟩
    | 2, hq => cases hq; rw [y2]; exact ⟨aQ1, aQ2⟩
    | 3, hq => cases hq; rw [z0]; exact ⟨aI1, aI2⟩
    | 4, hq => cases hq; rw [z1]; exact ⟨aJ1, aJ2⟩
    | 5, hq => cases hq; rw [z2]; exact ⟨aZ1, aZ2⟩
    | k + 6, hq => cases hq
  have hs := flat_of_before _ hgv
  obtain ⟨bc, hbc, hXbc⟩ := zX_of (tm := (.static "SolidsRolled" "CUBE_TURNS" "[I")) (N := 24) (f := fun j => nI ((zct false).getD j 0)) (by decide) (hs (.arrayOf (.static "SolidsRolled" "CUBE_TURNS" "[I") .int) (by decide +kernel)) (va_eqt (hs (.eq (.length (.static "SolidsRolled" "CUBE_TURNS" "[I")) (.int 24)) (by decide +kernel))) (fun j hj => by
    match j, hj with
    | 0, _ => exact va_eqt (hs (.eq (.elem (.static "SolidsRolled" "CUBE_TURNS" "[I") (.int 0)) (.int 4)) (by decide +kernel))
    | 1, _ => exact va_eqt (hs (.eq (.elem (.static "SolidsRolled" "CUBE_TURNS" "[I") (.int 1)) (.int 2)) (by decide +kernel))
    | 2, _ => exact va_eqt (hs (.eq (.elem (.static "SolidsRolled" "CUBE_TURNS" "[I") (.int 2)) (.int 0)) (by decide +kernel))
    | 3, _ => exact va_eqt (hs (.eq (.elem (.static "SolidsRolled" "CUBE_TURNS" "[I") (.int 3)) (.int 3)) (by decide +kernel))
    | 4, _ => exact va_eqt (hs (.eq (.elem (.static "SolidsRolled" "CUBE_TURNS" "[I") (.int 4)) (.int 1)) (by decide +kernel))
    | 5, _ => exact va_eqt (hs (.eq (.elem (.static "SolidsRolled" "CUBE_TURNS" "[I") (.int 5)) (.int 5)) (by decide +kernel))
    | 6, _ => exact va_eqt (hs (.eq (.elem (.static "SolidsRolled" "CUBE_TURNS" "[I") (.int 6)) (.int 5)) (by decide +kernel))
    | 7, _ => exact va_eqt (hs (.eq (.elem (.static "SolidsRolled" "CUBE_TURNS" "[I") (.int 7)) (.int 3)) (by decide +kernel))
    | 8, _ => exact va_eqt (hs (.eq (.elem (.static "SolidsRolled" "CUBE_TURNS" "[I") (.int 8)) (.int 2)) (by decide +kernel))
    | 9, _ => exact va_eqt (hs (.eq (.elem (.static "SolidsRolled" "CUBE_TURNS" "[I") (.int 9)) (.int 0)) (by decide +kernel))
    | 10, _ => exact va_eqt (hs (.eq (.elem (.static "SolidsRolled" "CUBE_TURNS" "[I") (.int 10)) (.int 4)) (by decide +kernel))
    | 11, _ => exact va_eqt (hs (.eq (.elem (.static "SolidsRolled" "CUBE_TURNS" "[I") (.int 11)) (.int 1)) (by decide +kernel))
    | 12, _ => exact va_eqt (hs (.eq (.elem (.static "SolidsRolled" "CUBE_TURNS" "[I") (.int 12)) (.int 2)) (by decide +kernel))
    | 13, _ => exact va_eqt (hs (.eq (.elem (.static "SolidsRolled" "CUBE_TURNS" "[I") (.int 13)) (.int 4)) (by decide +kernel))
    | 14, _ => exact va_eqt (hs (.eq (.elem (.static "SolidsRolled" "CUBE_TURNS" "[I") (.int 14)) (.int 1)) (by decide +kernel))
    | 15, _ => exact va_eqt (hs (.eq (.elem (.static "SolidsRolled" "CUBE_TURNS" "[I") (.int 15)) (.int 3)) (by decide +kernel))
    | 16, _ => exact va_eqt (hs (.eq (.elem (.static "SolidsRolled" "CUBE_TURNS" "[I") (.int 16)) (.int 0)) (by decide +kernel))
    | 17, _ => exact va_eqt (hs (.eq (.elem (.static "SolidsRolled" "CUBE_TURNS" "[I") (.int 17)) (.int 5)) (by decide +kernel))
    | 18, _ => exact va_eqt (hs (.eq (.elem (.static "SolidsRolled" "CUBE_TURNS" "[I") (.int 18)) (.int 3)) (by decide +kernel))
    | 19, _ => exact va_eqt (hs (.eq (.elem (.static "SolidsRolled" "CUBE_TURNS" "[I") (.int 19)) (.int 5)) (by decide +kernel))
    | 20, _ => exact va_eqt (hs (.eq (.elem (.static "SolidsRolled" "CUBE_TURNS" "[I") (.int 20)) (.int 2)) (by decide +kernel))
    | 21, _ => exact va_eqt (hs (.eq (.elem (.static "SolidsRolled" "CUBE_TURNS" "[I") (.int 21)) (.int 1)) (by decide +kernel))
    | 22, _ => exact va_eqt (hs (.eq (.elem (.static "SolidsRolled" "CUBE_TURNS" "[I") (.int 22)) (.int 4)) (by decide +kernel))
    | 23, _ => exact va_eqt (hs (.eq (.elem (.static "SolidsRolled" "CUBE_TURNS" "[I") (.int 23)) (.int 0)) (by decide +kernel))
    | k + 24, hj => exact absurd hj (by omega))
  have hZbc : va_Z "SolidsRolled" "CUBE_TURNS" "[I" (.ref bc) (fun q : Nat => s.heap.size ≤ q) s s.heap := va_Zref (hts (.laysStatic "SolidsRolled" "CUBE_TURNS" "[I") (List.mem_of_getElem? (i := 86) (by decide +kernel))) (hts (.initialized "SolidsRolled") (List.mem_of_getElem? (i := 62) (by decide +kernel))) hbc (fun a ha => Nat.not_le.mpr ha)
  obtain ⟨bt, hbt, hXbt⟩ := zX_of (tm := (.static "SolidsRolled" "TETRA_TURNS" "[I")) (N := 16) (f := fun j => nI ((zct true).getD j 0)) (by decide) (hs (.arrayOf (.static "SolidsRolled" "TETRA_TURNS" "[I") .int) (by decide +kernel)) (va_eqt (hs (.eq (.length (.static "SolidsRolled" "TETRA_TURNS" "[I")) (.int 16)) (by decide +kernel))) (fun j hj => by
    match j, hj with
    | 0, _ => exact va_eqt (hs (.eq (.elem (.static "SolidsRolled" "TETRA_TURNS" "[I") (.int 0)) (.int 3)) (by decide +kernel))
    | 1, _ => exact va_eqt (hs (.eq (.elem (.static "SolidsRolled" "TETRA_TURNS" "[I") (.int 1)) (.int 1)) (by decide +kernel))
    | 2, _ => exact va_eqt (hs (.eq (.elem (.static "SolidsRolled" "TETRA_TURNS" "[I") (.int 2)) (.int 2)) (by decide +kernel))
    | 3, _ => exact va_eqt (hs (.eq (.elem (.static "SolidsRolled" "TETRA_TURNS" "[I") (.int 3)) (.int 0)) (by decide +kernel))
    | 4, _ => exact va_eqt (hs (.eq (.elem (.static "SolidsRolled" "TETRA_TURNS" "[I") (.int 4)) (.int 2)) (by decide +kernel))
    | 5, _ => exact va_eqt (hs (.eq (.elem (.static "SolidsRolled" "TETRA_TURNS" "[I") (.int 5)) (.int 0)) (by decide +kernel))
    | 6, _ => exact va_eqt (hs (.eq (.elem (.static "SolidsRolled" "TETRA_TURNS" "[I") (.int 6)) (.int 3)) (by decide +kernel))
    | 7, _ => exact va_eqt (hs (.eq (.elem (.static "SolidsRolled" "TETRA_TURNS" "[I") (.int 7)) (.int 1)) (by decide +kernel))
    | 8, _ => exact va_eqt (hs (.eq (.elem (.static "SolidsRolled" "TETRA_TURNS" "[I") (.int 8)) (.int 3)) (by decide +kernel))
    | 9, _ => exact va_eqt (hs (.eq (.elem (.static "SolidsRolled" "TETRA_TURNS" "[I") (.int 9)) (.int 1)) (by decide +kernel))
    | 10, _ => exact va_eqt (hs (.eq (.elem (.static "SolidsRolled" "TETRA_TURNS" "[I") (.int 10)) (.int 2)) (by decide +kernel))
    | 11, _ => exact va_eqt (hs (.eq (.elem (.static "SolidsRolled" "TETRA_TURNS" "[I") (.int 11)) (.int 0)) (by decide +kernel))
    | 12, _ => exact va_eqt (hs (.eq (.elem (.static "SolidsRolled" "TETRA_TURNS" "[I") (.int 12)) (.int 1)) (by decide +kernel))
    | 13, _ => exact va_eqt (hs (.eq (.elem (.static "SolidsRolled" "TETRA_TURNS" "[I") (.int 13)) (.int 3)) (by decide +kernel))
    | 14, _ => exact va_eqt (hs (.eq (.elem (.static "SolidsRolled" "TETRA_TURNS" "[I") (.int 14)) (.int 0)) (by decide +kernel))
    | 15, _ => exact va_eqt (hs (.eq (.elem (.static "SolidsRolled" "TETRA_TURNS" "[I") (.int 15)) (.int 2)) (by decide +kernel))
    | k + 16, hj => exact absurd hj (by omega))
  have hZbt : va_Z "SolidsRolled" "TETRA_TURNS" "[I" (.ref bt) (fun q : Nat => s.heap.size ≤ q) s s.heap := va_Zref (hts (.laysStatic "SolidsRolled" "TETRA_TURNS" "[I") (List.mem_of_getElem? (i := 128) (by decide +kernel))) (hts (.initialized "SolidsRolled") (List.mem_of_getElem? (i := 62) (by decide +kernel))) hbt (fun a ha => Nat.not_le.mpr ha)
  have hNw : ∀ w ∈ nwC, va_Nw w s := by
    intro w hw
    simp only [nwC, List.mem_cons, List.not_mem_nil, or_false] at hw
    rcases hw with rfl | rfl | rfl | rfl
    · exact va_Nw.of rfl (hts (.methodLinkNest RX6 77 yX7_isTetra RX7) (List.mem_of_getElem? (i := 354) (by decide +kernel)))
    · exact va_Nw.of rfl (hts (.methodLinkNest RX6 113 yX7_isBlock RX7) (List.mem_of_getElem? (i := 402) (by decide +kernel)))
    · exact va_Nw.of rfl (hts (.methodLinkNest RX3 25 yX7_lackOf RX7) (List.mem_of_getElem? (i := 714) (by decide +kernel)))
    · exact va_Nw.of rfl (hts (.methodLinkNest RX2 31 yX7_lackOf RX7) (List.mem_of_getElem? (i := 753) (by decide +kernel)))
  have K : zr_K p s m #[Value.ref b] c cL_law 4 RL wsL_law (dC, dI) (tysC cy ++ tysM cy2) (fun q : Nat => s.heap.size ≤ q) := ⟨⟨hx, hb, hml, hown, htl⟩, hK, hA⟩
  have G : zr_G p l e room_1 s m #[Value.ref b] below meth c (lw_Z below #[Value.ref b] s) (dC, dI) (fun q : Nat => s.heap.size ≤ q) 4 0 0 0 [(0, .ref b)] [] [] := by
    refine zr_new K (C := RX7) (T := TX7) (N := 9) (ci := 7) (fs := [.null, .null, .int 0, .null, .null, .null, .null, .null, .null]) inlX7 tyX7 tyX7_ok (List.mem_of_getElem? (i := 0) rfl) (List.mem_of_getElem? (i := 1) rfl) (List.mem_of_getElem? (i := 2) rfl) rfl (fun j hj => by rcases (show j = 0 ∨ j = 1 ∨ j = 2 ∨ j = 3 ∨ j = 4 ∨ j = 5 ∨ j = 6 ∨ j = 7 ∨ j = 8 by omega) with rfl | rfl | rfl | rfl | rfl | rfl | rfl | rfl | rfl <;> rfl) (Nat.le_of_ble_eq_true rfl) (Nat.le_of_ble_eq_true rfl) dL_law_0 (fun q7 => ?_)
    refine zr_ws (ws2 := [(q7, .inr (7, [.null, .null, .int 0, .null, .null, .null, .null, .null, .null]))]) rfl ?_
    refine zr_widen (nc2 := 1) (ns2 := 9) (Nat.le_of_ble_eq_true rfl) (Nat.le_of_ble_eq_true rfl) ?_
    refine zr_dup K rfl dL_law_3 ?_
    refine zr_aq (k := 0) (q := q7) rfl (fun hq7 => ?_)
    have hq7 : s.heap.size ≤ q7 := hq7
    refine zr_callI K (wr := []) [] (zk_X7_init l (dC, dI) cy q7 bc bt (fun j => nI ((zct false).getD j 0)) (fun j => nI ((zct true).getD j 0)) (fun z => absurd hXbc.2 (by omega)) (fun z => absurd hXbt.2 (by omega)) (fun _ _ => rfl) (fun _ _ => rfl)) [0] [] [0, 1, 2] rfl rfl rfl (by decide) (by decide) (by decide) rfl (zXS.X q7 bc bt _ _) (fun H locs U hS hU ha => ?_) gL_law_X7_init rfl ⟨rfl, rfl⟩ (List.mem_of_getElem? (i := 2) rfl) (List.mem_of_getElem? (i := 6) rfl) (List.mem_of_getElem? (i := 7) rfl) rfl zdsS_yX7_init_s ⟨(Nat.le_of_ble_eq_true rfl), (Nat.le_of_ble_eq_true rfl)⟩ ⟨(Nat.le_of_ble_eq_true rfl), (Nat.le_of_ble_eq_true rfl)⟩ rfl rfl (Nat.le_of_ble_eq_true rfl) dL_law_4 (fun u7 hu7 => ?_)
    · have hsub : ∀ q, zXA q7 U q → s.heap.size ≤ q := fun q hq => by
        rcases hq with z | z
        · rw [z]; exact hq7
        · rw [hU] at z; exact Nat.le_trans hS.1 z
      have mvZ : ∀ n v, va_Z "SolidsRolled" n "[I" v (fun q : Nat => s.heap.size ≤ q) s s.heap → va_Z "SolidsRolled" n "[I" v (zXA q7 U) U U.heap := fun n v hz => va_Z.narrow (by rw [hU]; exact va_Z.kept (va_Z.moved ha hz) (fun a h1 h2 => hS.2.1 a h1 h2)) hsub
      exact ⟨⟨mvZ _ _ hZbc, mvZ _ _ hZbt⟩, zX.on hXbc (Nat.not_le.mpr hXbc.2) hS hU ha, zX.on hXbt (Nat.not_le.mpr hXbt.2) hS hU ha, trivial, va_AO.moved ha aoR, va_AO.moved ha aoK⟩
    obtain ⟨q19, q24, q29, q32, q41, q1, q10, q46, q49, q52, q56, q60, q64, q21, q26, q22, q27, q31, q34, q35, q36, q37, q38, q39, q40, q43, q44, q4, q13, q5, q14, q6, q15, q48, q51, q54, q58, q62, q66, q59, q63, q67, q45, q55, q68, f23, f28, f7, f16, f8, f17, f9, f18, rfl, hf23, hf28, hf7, hf16, hf8, hf17, hf9, hf18⟩ := hu7
    refine zr_ws (ws2 := [(q7, .inr (7, [.ref q19, .ref q24, .int (0), .ref q29, .ref q32, .ref q41, .ref q45, .ref q55, .ref q68])), (q19, .inr (6, [.ref q1, .ref q10, .ref q21, .ref q22, .int (4), .int (4), .int (0), .int (0), .int (1)])), (q24, .inr (6, [.ref q1, .ref q10, .ref q26, .ref q27, .int (4), .int (4), .int (0), .int (0), .int (1)])), (q29, .inr (1, [.ref q31, .int (0)])), (q32, .inr (4, [.ref q34, .ref q35, .ref q36, .ref q37, .ref q38, .ref q39, .ref q40, .int (0)])), (q41, .inr (0, [.ref q43, .ref q44, .int (0), .int (0)])), (q1, .inr (5, [.int (6), .int (1), .ref q4, .ref q5, .ref q6, .int (24)])), (q10, .inr (5, [.int (4), .int (0), .ref q13, .ref q14, .ref q15, .int (8)])), (q46, .inr (3, [.ref q48, .int (-1)])), (q49, .inr (3, [.ref q51, .int (-1)])), (q52, .inr (3, [.ref q54, .int (-1)])), (q56, .inr (2, [.ref q58, .ref q59, .int (0), .int (-1)])), (q60, .inr (2, [.ref q62, .ref q63, .int (0), .int (-1)])), (q64, .inr (2, [.ref q66, .ref q67, .int (0), .int (-1)])), (q21, .inl ((cy 0), 36, .inl (fun _ => 0))), (q26, .inl ((cy 0), 36, .inl (fun _ => 0))), (q22, .inl ((cy 0), 36, .inl f23)), (q27, .inl ((cy 0), 36, .inl f28)), (q31, .inl ((cy 0), 72, .inl (fun _ => 0))), (q34, .inl ((cy 0), 1728, .inl (fun _ => 0))), (q35, .inl ((cy 0), 1728, .inl (fun _ => 0))), (q36, .inl ((cy 0), 1728, .inl (fun _ => 0))), (q37, .inl ((cy 0), 1728, .inl (fun _ => 0))), (q38, .inl ((cy 0), 1728, .inl (fun _ => 0))), (q39, .inl ((cy 0), 1728, .inl (fun _ => 0))), (q40, .inl ((cy 0), 1728, .inl (fun _ => 0))), (q43, .inl ((cy 0), 20, .inl (fun _ => 0))), (q44, .inl ((cy 0), 720, .inl (fun _ => 0))), (q4, .inl ((cy 0), 144, .inl f7)), (q13, .inl ((cy 0), 96, .inl f16)), (q5, .inl ((cy 0), 144, .inl f8)), (q14, .inl ((cy 0), 96, .inl f17)), (q6, .inl ((cy 0), 96, .inl f9)), (q15, .inl ((cy 0), 96, .inl f18)), (q48, .inl ((cy 0), 40, .inl (fun _ => 0))), (q51, .inl ((cy 0), 40, .inl (fun _ => 0))), (q54, .inl ((cy 0), 40, .inl (fun _ => 0))), (q58, .inl ((cy 0), 9, .inl (fun _ => 0))), (q62, .inl ((cy 0), 9, .inl (fun _ => 0))), (q66, .inl ((cy 0), 9, .inl (fun _ => 0))), (q59, .inl ((cy 0), 9, .inl (fun _ => 0))), (q63, .inl ((cy 0), 9, .inl (fun _ => 0))), (q67, .inl ((cy 0), 9, .inl (fun _ => 0))), (q45, .inl ((cy 1), 3, .inr (.inr (.inr (.inr (va_up (va_up (va_up (fun _ => none) (((0) : Int32)).toNatClampNeg (some q46)) (((1) : Int32)).toNatClampNeg (some q49)) (((2) : Int32)).toNatClampNeg (some q52))))))), (q55, .inl ((cy 2), 3, .inr (.inr (.inr (.inr (va_up (va_up (va_up (fun _ => none) (((0) : Int32)).toNatClampNeg (some q56)) (((1) : Int32)).toNatClampNeg (some q60)) (((2) : Int32)).toNatClampNeg (some q64))))))), (q68, .inl ((cy 0), 7, .inl (fun _ => 0)))]) rfl ?_
    refine zr_wC0 cy q7 q19 q24 q29 q32 q41 q1 q10 q46 q49 q52 q56 q60 q64 q21 q26 q22 q27 q31 q34 q35 q36 q37 q38 q39 q40 q43 q44 q4 q13 q5 q14 q6 q15 q48 q51 q54 q58 q62 q66 q59 q63 q67 q45 q55 q68 f23 f28 f7 f16 f8 f17 f9 f18 ?_
    refine zr_widen (nc2 := 48) (ns2 := 13992) (Nat.le_of_ble_eq_true rfl) (Nat.le_of_ble_eq_true rfl) ?_
    refine zr_astore_n K [(1, .ref ((za0 q7 q19 q24 q29 q32 q41 q1 q10 q46 q49 q52 q56 q60 q64 q21 q26 q22 q27 q31 q34 q35 q36 q37 q38 q39 q40 q43 q44 q4 q13 q5 q14 q6 q15 q48 q51 q54 q58 q62 q66 q59 q63 q67 q45 q55 q68) 0)), (0, .ref b)] dL_law_7 rfl (by decide) rfl ?_
    generalize hAD : (za0 q7 q19 q24 q29 q32 q41 q1 q10 q46 q49 q52 q56 q60 q64 q21 q26 q22 q27 q31 q34 q35 q36 q37 q38 q39 q40 q43 q44 q4 q13 q5 q14 q6 q15 q48 q51 q54 q58 q62 q66 q59 q63 q67 q45 q55 q68) = ad
    obtain ⟨τ0, hτ0⟩ : ∃ τ0, τ0 = (zt0 f23 f28 f7 f16 f8 f17 f9 f18) := ⟨_, rfl⟩
    rw [← hτ0]
    refine zr_new K (C := RX8) (T := TX8) (N := 48) (ci := 8) (fs := [.int 0, .null, .int 0, .int 0, .null, .null, .int 0, .int 0, .int 0, .int 0, .null, .null, .int 0, .null, .null, .int 0, .int 0, .int 0, .null, .int 0, .int 0, .null, .null, .null, .null, .null, .null, .int 0, .int 0, .null, .null, .int 0, .null, .null, .null, .null, .null, .null, .null, .null, .null, .null, .int 0, .int 0, .null, .null, .null, .null]) inlX8 tyX8 tyX8_ok (List.mem_of_getElem? (i := 3) rfl) (List.mem_of_getElem? (i := 4) rfl) (List.mem_of_getElem? (i := 5) rfl) rfl (fun j hj => by rcases (show j = 0 ∨ j = 1 ∨ j = 2 ∨ j = 3 ∨ j = 4 ∨ j = 5 ∨ j = 6 ∨ j = 7 ∨ j = 8 ∨ j = 9 ∨ j = 10 ∨ j = 11 ∨ j = 12 ∨ j = 13 ∨ j = 14 ∨ j = 15 ∨ j = 16 ∨ j = 17 ∨ j = 18 ∨ j = 19 ∨ j = 20 ∨ j = 21 ∨ j = 22 ∨ j = 23 ∨ j = 24 ∨ j = 25 ∨ j = 26 ∨ j = 27 ∨ j = 28 ∨ j = 29 ∨ j = 30 ∨ j = 31 ∨ j = 32 ∨ j = 33 ∨ j = 34 ∨ j = 35 ∨ j = 36 ∨ j = 37 ∨ j = 38 ∨ j = 39 ∨ j = 40 ∨ j = 41 ∨ j = 42 ∨ j = 43 ∨ j = 44 ∨ j = 45 ∨ j = 46 ∨ j = 47 by omega) with rfl | rfl | rfl | rfl | rfl | rfl | rfl | rfl | rfl | rfl | rfl | rfl | rfl | rfl | rfl | rfl | rfl | rfl | rfl | rfl | rfl | rfl | rfl | rfl | rfl | rfl | rfl | rfl | rfl | rfl | rfl | rfl | rfl | rfl | rfl | rfl | rfl | rfl | rfl | rfl | rfl | rfl | rfl | rfl | rfl | rfl | rfl | rfl <;> rfl) (Nat.le_of_ble_eq_true rfl) (Nat.le_of_ble_eq_true rfl) dL_law_8 (fun o8 => ?_)
    refine zr_widen (nc2 := 49) (ns2 := 14040) (Nat.le_of_ble_eq_true rfl) (Nat.le_of_ble_eq_true rfl) ?_
    refine zr_dup K rfl dL_law_11 ?_
    refine zr_callI K (wr := wC ad cy τ0) [] (zk_X8_init l (dC, dI) (cy2 0) (cy2 1) (cy2 2) o8) [46] [0, 1, 2, 3, 4, 5, 6, 7, 8, 9, 10, 11, 12, 13, 14, 15, 16, 17, 18, 19, 20, 21, 22, 23, 24, 25, 26, 27, 28, 29, 30, 31, 32, 33, 34, 35, 36, 37, 38, 39, 40, 41, 42, 43, 44, 45] [3, 4, 5] rfl rfl rfl (by decide) (by decide +kernel) (by decide +kernel) rfl (fun _ _ _ _ _ => trivial) (fun _ _ _ _ _ _ => trivial) gL_law_X8_init rfl ⟨rfl, rfl⟩ (List.mem_of_getElem? (i := 5) rfl) (List.mem_of_getElem? (i := 128) rfl) (List.mem_of_getElem? (i := 129) rfl) rfl zdsS_yX8_init_s ⟨(Nat.le_of_ble_eq_true rfl), (Nat.le_of_ble_eq_true rfl)⟩ ⟨(Nat.le_of_ble_eq_true rfl), (Nat.le_of_ble_eq_true rfl)⟩ rfl rfl (Nat.le_of_ble_eq_true rfl) dL_law_12 (fun u8 hu8 => ?_)
    obtain ⟨q1, q2, q3, q4, q5, q6, q7, q8, q9, q10, q11, q12, q13, q14, q15, q16, q17, q18, q19, q20, q21, q22, q23, q24, q25, q26, q27, q28, q29, q30, fp, fl, fr, fc, hfp, hfl, hfr, hfc, rfl⟩ := hu8
    refine zr_ws (ws2 := wC ad cy τ0 ++ wM (zb0 o8 q1 q2 q3 q4 q5 q6 q7 q8 q9 q10 q11 q12 q13 q14 q15 q16 q17 q18 q19 q20 q21 q22 q23 q24 q25 q26 q27 q28 q29 q30) cy2 (zs0 fp fl fr fc)) (congrArg (fun z => wC ad cy τ0 ++ z) (zs_wM0 cy2 o8 q1 q2 q3 q4 q5 q6 q7 q8 q9 q10 q11 q12 q13 q14 q15 q16 q17 q18 q19 q20 q21 q22 q23 q24 q25 q26 q27 q28 q29 q30 fp fl fr fc)) ?_
    refine zr_astore_n K [(2, .ref ((zb0 o8 q1 q2 q3 q4 q5 q6 q7 q8 q9 q10 q11 q12 q13 q14 q15 q16 q17 q18 q19 q20 q21 q22 q23 q24 q25 q26 q27 q28 q29 q30) 0)), (1, .ref (ad 0)), (0, .ref b)] dL_law_15 rfl (by decide) rfl ?_
    refine zr_iconst K dL_law_16 (by decide : _ = (0 : Int32)) ?_
    refine zr_istore_n K [(3, .int (nI 0)), (2, .ref ((zb0 o8 q1 q2 q3 q4 q5 q6 q7 q8 q9 q10 q11 q12 q13 q14 q15 q16 q17 q18 q19 q20 q21 q22 q23 q24 q25 q26 q27 q28 q29 q30) 0)), (1, .ref (ad 0)), (0, .ref b)] dL_law_17 rfl (by decide) rfl ?_
    refine zr_widen (nc2 := 600000) (ns2 := 7302250) (Nat.le_of_ble_eq_true rfl) (Nat.le_of_ble_eq_true rfl) ?_
    have hrel : Rel (zs0 fp fl fr fc) τ0 := by
      rw [hτ0]
      exact Rel0 f23 f28 f7 f16 f8 f17 f9 f18 fp fl fr fc hf23 hf7 hf16 hf8 hf17 hf9 hf18 hfp hfl hfr hfc
    refine law_loop K hNw ⟨Nat.le_refl _, Nat.le_refl _⟩ hX hbl hbA hL (fun σ τ i => ?_) L 0 (by omega) (Nat.zero_le _) _ _ hrel
    refine zr_iconst K dL_law_1125 (by decide : _ = (1 : Int32)) ?_
    exact fun H locs ls hP hD hS hl => va_forget hS.2.2 (lw_ret hx hb hr hlocks dL_law_1126)
  have hl := lv_entry ([.ref b]) (n := 4) (Nat.le_of_ble_eq_true rfl)
  rw [lg_entry_eq]
  generalize (lg_sl ([.ref b]) ++ List.replicate (4 - (lg_sl ([.ref b])).length) Slot.unset).toArray = ls at hl ⊢
  have hl : lv_has ls 4 [(0, .ref b)] := hl
  exact G s.heap [] ls (fun k q h => by simp at h) ⟨fun i j p q h => by simp at h, fun k q h => by simp at h⟩ va_S.rf hl
