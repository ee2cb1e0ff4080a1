def zpo (l : List Nat) (sd : Nat) : Nat → Nat → Nat
  | 0, _ => 0
  | n + 1, j => if j = n / sd * sd + l.getD n 0 then n % sd else zpo l sd n j
theorem zpo_e : ∀ te : Bool, ∀ j, j < 24 * zs_sd te → zpo (zlF te) (zs_sd te) (24 * zs_sd te) j = (zlP te).getD j 0 := by
  intro te
  cases te <;> decide +kernel
theorem zlF_s : ∀ te : Bool, ∀ j, j < 24 * zs_sd te → (zlF te).getD j 0 < zs_sd te := by
  intro te
  cases te <;> decide +kernel
theorem zlF_1 : ∀ te : Bool, ∀ j, j < zs_sd te → (zlF te).getD j 0 = j := by
  intro te
  cases te <;> decide +kernel
theorem zlF_o : ∀ te : Bool, ∀ j, j < 24 * zs_sd te → zs_ns te * zs_sd te ≤ j → (zlF te).getD j 0 = 0 := by
  intro te
  cases te <;> decide +kernel
theorem zlT_o : ∀ te : Bool, ∀ j, j < 96 → 4 * zs_ns te ≤ j → (zlT te).getD j 0 = 0 := by
  intro te
  cases te <;> decide +kernel
theorem zr_dm {s sd k : Nat} (h : k < sd) : (s * sd + k) / sd = s ∧ (s * sd + k) % sd = k := by
  rw [Nat.mul_comm]
  exact ⟨by rw [Nat.mul_add_div (by omega), Nat.div_eq_of_lt h, Nat.add_zero], by rw [Nat.mul_add_mod, Nat.mod_eq_of_lt h]⟩
theorem zin_X5_tellPositions_X5 : ∀ w ∈ wsX50, w ∈ wsX5_tellPositions := fun w h => List.mem_cons_of_mem _ (List.mem_append_right _ h)
theorem zlk_X5_tellPositions_1 : Cond.fieldLink RX5 9 "SolidsRolled$Stances" "sides" "I" ∈ wsX5_tellPositions := List.mem_of_getElem? (i := 1) rfl
theorem zlk_X5_tellPositions_2 : Cond.fieldLink RX5 22 "SolidsRolled$Stances" "positions" "[I" ∈ wsX5_tellPositions := List.mem_of_getElem? (i := 2) rfl
theorem zlk_X5_tellPositions_3 : Cond.fieldLink RX5 18 "SolidsRolled$Stances" "faceAt" "[I" ∈ wsX5_tellPositions := List.mem_of_getElem? (i := 3) rfl
set_option maxHeartbeats 4000000 in
set_option maxRecDepth 100000 in
theorem zk_tellPositions (l : Launch) (D : va_G) (te : Bool) (cI : ClassId) (h0 q1 q2 : Nat) (vb v3 vk : Value) (f : Nat → Int32) (hf : ∀ j, j < 24 * zs_sd te → f j = nI ((zlF te).getD j 0)) : zr_Mv l yX5_tellPositions wsX5_tellPositions { frames := 0, cells := 0, slots := 0, locals := 0 } D [(cI, .int)] [.ref h0] (fun _ => True) [(h0, .inr (5, [.int (nI (zs_sd te)), vb, .ref q1, .ref q2, v3, vk])), (q1, .inl (cI, 24 * zs_sd te, .inl f)), (q2, .inl (cI, 24 * zs_sd te, .inl (fun _ => 0)))] (fun ws2 => ∃ g : Nat → Int32, ws2 = [(h0, .inr (5, [.int (nI (zs_sd te)), vb, .ref q1, .ref q2, v3, vk])), (q1, .inl (cI, 24 * zs_sd te, .inl f)), (q2, .inl (cI, 24 * zs_sd te, .inl g))] ∧ ∀ j, j < 24 * zs_sd te → g j = nI ((zlP te).getD j 0)) 0 0 := by
  have hsd := zs_sd_b te
  refine zr_Mv.of (cc := cX5_tellPositions) (maxL := 3) (by decide +kernel) rfl (Nat.le_of_ble_eq_true rfl) ?_
  intro p e s m args below meth c A QW K hX hNA hnm hret
  refine zr_sub [0] [(0, .ref h0)] rfl ?_
  refine zr_iconst K dX5_tellPositions_0 (by decide : _ = (0 : Int32)) ?_
  refine zr_istore_n K _ dX5_tellPositions_1 rfl (by decide) rfl ?_
  have lo : ∀ n s0, n + s0 = 24 → ∀ g : Nat → Int32, (∀ j, j < 24 * zs_sd te → g j = nI (zpo (zlF te) (zs_sd te) (s0 * zs_sd te) j)) → zr_G p l e { frames := 0, cells := 0, slots := 0, locals := 0 } s m args below meth c QW D A 3 0 0 2 [(1, .int (nI s0)), (0, .ref h0)] [] [(h0, .inr (5, [.int (nI (zs_sd te)), vb, .ref q1, .ref q2, v3, vk])), (q1, .inl (cI, 24 * zs_sd te, .inl f)), (q2, .inl (cI, 24 * zs_sd te, .inl g))] := by
    intro n
    induction n with
    | zero =>
      intro s0 hs g hg
      refine zr_iload_n K 0 dX5_tellPositions_2 rfl rfl ?_
      refine zr_bipush K dX5_tellPositions_3 (by decide : _ = (24 : Int32)) ?_
      refine zr_icmp_ge K 56 dX5_tellPositions_5 rfl (fun _ => ?_) (fun h => absurd (nI_le (a := 24) (by omega) (by omega)) h)
      have e24 : s0 = 24 := by omega
      subst e24
      exact hret _ ⟨g, rfl, fun j hj => by rw [hg j hj, zpo_e te j hj]⟩ _ _ dX5_tellPositions_56
    | succ n ih =>
      intro s0 hs g hg
      refine zr_iload_n K 0 dX5_tellPositions_2 rfl rfl ?_
      refine zr_bipush K dX5_tellPositions_3 (by decide : _ = (24 : Int32)) ?_
      refine zr_icmp_ge K 56 dX5_tellPositions_5 rfl (fun h => absurd ((nI_leI (a := 24) (b := s0) (by omega) (by omega)).mp h) (by omega)) (fun _ => ?_)
      refine zr_iconst K dX5_tellPositions_8 (by decide : _ = (0 : Int32)) ?_
      refine zr_istore_n K _ dX5_tellPositions_9 rfl (by decide) rfl ?_
      have li : ∀ n k, n + k = zs_sd te → ∀ g : Nat → Int32, (∀ j, j < 24 * zs_sd te → g j = nI (zpo (zlF te) (zs_sd te) (s0 * zs_sd te + k) j)) → zr_G p l e { frames := 0, cells := 0, slots := 0, locals := 0 } s m args below meth c QW D A 3 0 0 10 [(2, .int (nI k)), (1, .int (nI s0)), (0, .ref h0)] [] [(h0, .inr (5, [.int (nI (zs_sd te)), vb, .ref q1, .ref q2, v3, vk])), (q1, .inl (cI, 24 * zs_sd te, .inl f)), (q2, .inl (cI, 24 * zs_sd te, .inl g))] := by
        intro n2
        induction n2 with
        | zero =>
          intro k hk g hg
          refine zr_iload_n K 0 dX5_tellPositions_10 rfl rfl ?_
          refine zr_aload_n K 2 dX5_tellPositions_11 rfl rfl ?_
          refine zr_get K zin_X5_tellPositions_X5 (q0 := 0) rfl rfl 0 (by decide) rfl zlk_X5_tellPositions_1 rfl dX5_tellPositions_12 ?_
          refine zr_icmp_ge K 50 dX5_tellPositions_15 rfl (fun _ => ?_) (fun h => absurd (nI_le (by omega) (by omega)) h)
          refine zr_iinc K (cst := 1) 1 _ dX5_tellPositions_50 (by decide) rfl (by decide) rfl ?_
          refine zr_goto K 2 dX5_tellPositions_53 rfl ?_
          rw [nI_1]
          refine zr_sub [0, 2] [(1, .int (nI (s0 + 1))), (0, .ref h0)] rfl ?_
          refine ih (s0 + 1) (by omega) g (fun j hj => ?_)
          rw [hg j hj, Nat.succ_mul, show k = zs_sd te from by omega]
        | succ n2 ih2 =>
          intro k hk g hg
          refine zr_iload_n K 0 dX5_tellPositions_10 rfl rfl ?_
          refine zr_aload_n K 2 dX5_tellPositions_11 rfl rfl ?_
          refine zr_get K zin_X5_tellPositions_X5 (q0 := 0) rfl rfl 0 (by decide) rfl zlk_X5_tellPositions_1 rfl dX5_tellPositions_12 ?_
          refine zr_icmp_ge K 50 dX5_tellPositions_15 rfl (fun h => absurd ((nI_leI (a := zs_sd te) (b := k) (by omega) (by omega)).mp h) (by omega)) (fun _ => ?_)
          refine zr_aload_n K 2 dX5_tellPositions_18 rfl rfl ?_
          refine zr_get K zin_X5_tellPositions_X5 (q0 := 0) rfl rfl 3 (by decide) rfl zlk_X5_tellPositions_2 rfl dX5_tellPositions_19 ?_
          refine zr_iload_n K 1 dX5_tellPositions_22 rfl rfl ?_
          refine zr_aload_n K 2 dX5_tellPositions_23 rfl rfl ?_
          refine zr_get K zin_X5_tellPositions_X5 (q0 := 0) rfl rfl 0 (by decide) rfl zlk_X5_tellPositions_1 rfl dX5_tellPositions_24 ?_
          refine zr_imul K dX5_tellPositions_27 ?_
          refine zr_aload_n K 2 dX5_tellPositions_28 rfl rfl ?_
          refine zr_get K zin_X5_tellPositions_X5 (q0 := 0) rfl rfl 2 (by decide) rfl zlk_X5_tellPositions_3 rfl dX5_tellPositions_29 ?_
          refine zr_iload_n K 1 dX5_tellPositions_32 rfl rfl ?_
          refine zr_aload_n K 2 dX5_tellPositions_33 rfl rfl ?_
          refine zr_get K zin_X5_tellPositions_X5 (q0 := 0) rfl rfl 0 (by decide) rfl zlk_X5_tellPositions_1 rfl dX5_tellPositions_34 ?_
          refine zr_imul K dX5_tellPositions_37 ?_
          refine zr_iload_n K 0 dX5_tellPositions_38 rfl rfl ?_
          refine zr_iadd K dX5_tellPositions_39 ?_
          have hlt : s0 * zs_sd te + k < 24 * zs_sd te := zr_lt (by omega) (by omega)
          have hF := zlF_s te _ hlt
          have hlt2 : s0 * zs_sd te + (zlF te).getD (s0 * zs_sd te + k) 0 < 24 * zs_sd te := zr_lt (by omega) hF
          rw [zr_eo]
          refine zr_iaload K (q0 := 1) 0 rfl rfl (vp_in_nI hlt (by omega)) dX5_tellPositions_40 ?_
          rw [nI_clamp (n := s0 * zs_sd te + k) (by omega), hf _ hlt]
          refine zr_iadd K dX5_tellPositions_41 ?_
          refine zr_iload_n K 0 dX5_tellPositions_42 rfl rfl ?_
          rw [zr_eo]
          refine zr_iastore K (q0 := 2) 0 rfl rfl (vp_in_nI hlt2 (by omega)) [(h0, .inr (5, [.int (nI (zs_sd te)), vb, .ref q1, .ref q2, v3, vk])), (q1, .inl (cI, 24 * zs_sd te, .inl f)), (q2, .inl (cI, 24 * zs_sd te, .inl (upd g (nI (s0 * zs_sd te + (zlF te).getD (s0 * zs_sd te + k) 0)).toNatClampNeg (nI k))))] rfl dX5_tellPositions_43 ?_
          refine zr_iinc K (cst := 1) 0 _ dX5_tellPositions_44 (by decide) rfl (by decide) rfl ?_
          refine zr_goto K 10 dX5_tellPositions_47 rfl ?_
          rw [nI_1 k]
          refine ih2 (k + 1) (by omega) _ (fun j hj => ?_)
          rw [nI_clamp (n := s0 * zs_sd te + (zlF te).getD (s0 * zs_sd te + k) 0) (by omega)]
          show _ = nI (if j = (s0 * zs_sd te + k) / zs_sd te * zs_sd te + (zlF te).getD (s0 * zs_sd te + k) 0 then (s0 * zs_sd te + k) % zs_sd te else zpo (zlF te) (zs_sd te) (s0 * zs_sd te + k) j)
          obtain ⟨d1, d2⟩ := zr_dm (s := s0) (sd := zs_sd te) (k := k) (by omega)
          rw [d1, d2]
          by_cases z : j = s0 * zs_sd te + (zlF te).getD (s0 * zs_sd te + k) 0
          · rw [if_pos z, z, pk_us]
          · rw [if_neg z, pk_un z, hg j hj]
      exact li (zs_sd te) 0 rfl g hg
  exact lo 24 0 rfl _ (fun j hj => by rw [Nat.zero_mul]; rfl)
theorem zin_X5_init_X5 : ∀ w ∈ wsX50, w ∈ wsX5_init := fun w h => List.mem_cons_of_mem _ (List.mem_append_right _ h)
theorem zlk_X5_init_1 : Cond.methodLink RX5 3 objectInit ∈ wsX5_init := List.mem_of_getElem? (i := 1) rfl
theorem zlk_X5_init_2 : Cond.instanceMethod objectInit ∈ wsX5_init := List.mem_of_getElem? (i := 2) rfl
theorem zlk_X5_init_3 : Cond.code objectInit ⟨#[0xb1]⟩ 1 none ∈ wsX5_init := List.mem_of_getElem? (i := 3) rfl
theorem zlk_X5_init_4 : Cond.fieldLink RX5 9 "SolidsRolled$Stances" "sides" "I" ∈ wsX5_init := List.mem_of_getElem? (i := 4) rfl
theorem zlk_X5_init_5 : Cond.fieldLink RX5 15 "SolidsRolled$Stances" "bottom" "I" ∈ wsX5_init := List.mem_of_getElem? (i := 5) rfl
theorem zlk_X5_init_6 : Cond.arrayClass .int ∈ wsX5_init := List.mem_of_getElem? (i := 6) rfl
theorem zlk_X5_init_7 : Cond.fieldLink RX5 18 "SolidsRolled$Stances" "faceAt" "[I" ∈ wsX5_init := List.mem_of_getElem? (i := 7) rfl
theorem zlk_X5_init_8 : Cond.fieldLink RX5 22 "SolidsRolled$Stances" "positions" "[I" ∈ wsX5_init := List.mem_of_getElem? (i := 8) rfl
theorem zlk_X5_init_9 : Cond.fieldLink RX5 25 "SolidsRolled$Stances" "turned" "[I" ∈ wsX5_init := List.mem_of_getElem? (i := 9) rfl
theorem zlk_X5_init_10 : Cond.fieldLink RX5 28 "SolidsRolled$Stances" "known" "I" ∈ wsX5_init := List.mem_of_getElem? (i := 10) rfl
theorem zdsR3_yX5_tellPositions_v : yX5_tellPositions.cls = RX5 ∧ yX5_tellPositions.cls ≠ "java/lang/invoke/MethodHandle" ∧ yX5_tellPositions.cls ≠ "java/lang/invoke/VarHandle" ∧ (parseMethodDescriptor yX5_tellPositions.desc).map (fun d => d.parameters.length) = some 0 := by decide +kernel
theorem zdsR3_yX5_knownAs_v : yX5_knownAs.cls = RX5 ∧ yX5_knownAs.cls ≠ "java/lang/invoke/MethodHandle" ∧ yX5_knownAs.cls ≠ "java/lang/invoke/VarHandle" ∧ (parseMethodDescriptor yX5_knownAs.desc).map (fun d => d.parameters.length) = some 1 := by decide +kernel
theorem zr_ne {p : Program} {l : Launch} {e : Env} {R : Room} {s : State} {m : MethodId} {args : Array Value} {below : List Frame} {meth : Method} {c : Code} {Q : State → Prop} {D : va_G} {A : Nat → Prop} {nL nc ns : Nat} {pc : Nat} {lv : List (Nat × Value)} {st : List Value} {ws : va_W} {b q k : Nat} {x : va_E} (hbA : ¬ A b) (he : ws[k]? = some (q, x)) (kk : ¬ q = b → zr_G p l e R s m args below meth c Q D A nL nc ns pc lv st ws) : zr_G p l e R s m args below meth c Q D A nL nc ns pc lv st ws :=
  fun H locs ls hP hD hS hl => kk (fun z => hbA (by rw [← z]; exact hD.2 k _ he)) H locs ls hP hD hS hl
set_option maxHeartbeats 8000000 in
set_option maxRecDepth 100000 in
theorem zk_X5_init (l : Launch) (D : va_G) (te : Bool) (cI : ClassId) (h0 b : Nat) (bt : Int32) (xs : Nat → Int32) (hb : ¬ h0 = b) (hxs : ∀ j, j < 4 * zs_sd te → xs j = nI ((zct te).getD j 0)) : zr_Mv l yX5_init wsX5_init { frames := 2, cells := 4, slots := 48 * zs_sd te + 96 + zs_sd te, locals := 100 } D [(cI, .int)] [.ref h0, .int (nI (zs_sd te)), .int bt, .ref b] (zX b (4 * zs_sd te) xs) [(h0, .inr (5, [.int 0, .int 0, .null, .null, .null, .int 0]))] (fun ws2 => ∃ (q1 q2 q3 : Nat) (f g t : Nat → Int32), ws2 = [(h0, .inr (5, [.int (nI (zs_sd te)), .int bt, .ref q1, .ref q2, .ref q3, .int (nI (zs_ns te))])), (q1, .inl (cI, 24 * zs_sd te, .inl f)), (q2, .inl (cI, 24 * zs_sd te, .inl g)), (q3, .inl (cI, 96, .inl t))] ∧ (∀ j, j < 24 * zs_sd te → f j = nI ((zlF te).getD j 0)) ∧ (∀ j, j < 24 * zs_sd te → g j = nI ((zlP te).getD j 0)) ∧ ∀ j, j < 96 → t j = nI ((zlT te).getD j 0)) 4 (48 * zs_sd te + 96 + zs_sd te) := by
  have hsd := zs_sd_b te
  have hns : zs_ns te ≤ 24 := zs_ns_le te
  refine zr_Mv.of (cc := cX5_init) (maxL := 8) (by decide +kernel) rfl (Nat.le_of_ble_eq_true rfl) ?_
  intro p e s m args below meth c A QW K hX hNA hnm hret
  have hbA : ¬ A b := hNA b hX.2 (fun k q hq => by
    match k, hq with
    | 0, hq => cases hq; exact hb
    | k + 1, hq => cases hq)
  refine zr_sub [0, 1, 2, 3] [(0, .ref h0), (1, .int (nI (zs_sd te))), (2, .int bt), (3, .ref b)] rfl ?_
  refine zr_aload_n K 0 dX5_init_0 rfl rfl ?_
  refine zr_obj K zlk_X5_init_1 zlk_X5_init_2 zlk_X5_init_3 (Nat.le_of_ble_eq_true rfl) (Nat.le_of_ble_eq_true rfl) dX5_init_1 ?_
  refine zr_aload_n K 0 dX5_init_4 rfl rfl ?_
  refine zr_iload_n K 1 dX5_init_5 rfl rfl ?_
  refine zr_putF K hnm (ty := .int) zin_X5_init_X5 tyX5 tyX5_ok nmX5 (q0 := 0) rfl rfl 0 (by decide) rfl zlk_X5_init_4 rfl rfl (by decide +kernel) rfl rfl (Nat.le_of_ble_eq_true rfl) [(h0, .inr (5, [.int (nI (zs_sd te)), .int 0, .null, .null, .null, .int 0]))] rfl dX5_init_6 ?_
  refine zr_aload_n K 0 dX5_init_9 rfl rfl ?_
  refine zr_iload_n K 2 dX5_init_10 rfl rfl ?_
  refine zr_putF K hnm (ty := .int) zin_X5_init_X5 tyX5 tyX5_ok nmX5 (q0 := 0) rfl rfl 1 (by decide) rfl zlk_X5_init_5 rfl rfl (by decide +kernel) rfl rfl (Nat.le_of_ble_eq_true rfl) [(h0, .inr (5, [.int (nI (zs_sd te)), .int bt, .null, .null, .null, .int 0]))] rfl dX5_init_11 ?_
  refine zr_aload_n K 0 dX5_init_14 rfl rfl ?_
  refine zr_bipush K dX5_init_15 (by decide : _ = (24 : Int32)) ?_
  refine zr_iload_n K 1 dX5_init_17 rfl rfl ?_
  refine zr_imul K dX5_init_18 ?_
  rw [show (24 : Int32) * nI (zs_sd te) = nI (24 * zs_sd te) from pk_mul 24 _]
  refine zr_newi K 0 rfl (N' := 24 * zs_sd te) zlk_X5_init_6 (nI_pos (by omega)) (nI_clamp (by omega)) (by omega) (by show 0 + 1 ≤ 4; omega) (by show 0 + 24 * zs_sd te ≤ 48 * zs_sd te + 96 + zs_sd te; omega) dX5_init_19 (fun q1 => ?_)
  refine zr_ws (ws2 := [(h0, .inr (5, [.int (nI (zs_sd te)), .int bt, .null, .null, .null, .int 0])), (q1, .inl (cI, 24 * zs_sd te, .inl (fun _ => 0)))]) rfl ?_
  refine zr_widen (nc2 := 1) (ns2 := 24 * zs_sd te) (by omega) (by omega) ?_
  refine zr_putF K hnm (ty := (.array .int)) zin_X5_init_X5 tyX5 tyX5_ok nmX5 (q0 := 0) rfl rfl 2 (by decide) rfl zlk_X5_init_7 rfl rfl (by decide +kernel) rfl rfl (Nat.le_of_ble_eq_true rfl) [(h0, .inr (5, [.int (nI (zs_sd te)), .int bt, .ref q1, .null, .null, .int 0])), (q1, .inl (cI, 24 * zs_sd te, .inl (fun _ => 0)))] rfl dX5_init_21 ?_
  refine zr_aload_n K 0 dX5_init_24 rfl rfl ?_
  refine zr_bipush K dX5_init_25 (by decide : _ = (24 : Int32)) ?_
  refine zr_iload_n K 1 dX5_init_27 rfl rfl ?_
  refine zr_imul K dX5_init_28 ?_
  rw [show (24 : Int32) * nI (zs_sd te) = nI (24 * zs_sd te) from pk_mul 24 _]
  refine zr_newi K 0 rfl (N' := 24 * zs_sd te) zlk_X5_init_6 (nI_pos (by omega)) (nI_clamp (by omega)) (by omega) (by show 1 + 1 ≤ 4; omega) (by show 24 * zs_sd te + 24 * zs_sd te ≤ 48 * zs_sd te + 96 + zs_sd te; omega) dX5_init_29 (fun q2 => ?_)
  refine zr_ws (ws2 := [(h0, .inr (5, [.int (nI (zs_sd te)), .int bt, .ref q1, .null, .null, .int 0])), (q1, .inl (cI, 24 * zs_sd te, .inl (fun _ => 0))), (q2, .inl (cI, 24 * zs_sd te, .inl (fun _ => 0)))]) rfl ?_
  refine zr_widen (nc2 := 2) (ns2 := 48 * zs_sd te) (by omega) (by omega) ?_
  refine zr_putF K hnm (ty := (.array .int)) zin_X5_init_X5 tyX5 tyX5_ok nmX5 (q0 := 0) rfl rfl 3 (by decide) rfl zlk_X5_init_8 rfl rfl (by decide +kernel) rfl rfl (Nat.le_of_ble_eq_true rfl) [(h0, .inr (5, [.int (nI (zs_sd te)), .int bt, .ref q1, .ref q2, .null, .int 0])), (q1, .inl (cI, 24 * zs_sd te, .inl (fun _ => 0))), (q2, .inl (cI, 24 * zs_sd te, .inl (fun _ => 0)))] rfl dX5_init_31 ?_
  refine zr_aload_n K 0 dX5_init_34 rfl rfl ?_
  refine zr_bipush K dX5_init_35 (by decide : _ = (96 : Int32)) ?_
  refine zr_newi K 0 rfl (N' := 96) zlk_X5_init_6 (by decide) rfl (Nat.le_of_ble_eq_true rfl) (by show 2 + 1 ≤ 4; omega) (by show 48 * zs_sd te + 96 ≤ 48 * zs_sd te + 96 + zs_sd te; omega) dX5_init_37 (fun q3 => ?_)
  refine zr_ws (ws2 := [(h0, .inr (5, [.int (nI (zs_sd te)), .int bt, .ref q1, .ref q2, .null, .int 0])), (q1, .inl (cI, 24 * zs_sd te, .inl (fun _ => 0))), (q2, .inl (cI, 24 * zs_sd te, .inl (fun _ => 0))), (q3, .inl (cI, 96, .inl (fun _ => 0)))]) rfl ?_
  refine zr_widen (nc2 := 3) (ns2 := 48 * zs_sd te + 96) (by omega) (by omega) ?_
  refine zr_putF K hnm (ty := (.array .int)) zin_X5_init_X5 tyX5 tyX5_ok nmX5 (q0 := 0) rfl rfl 4 (by decide) rfl zlk_X5_init_9 rfl rfl (by decide +kernel) rfl rfl (Nat.le_of_ble_eq_true rfl) [(h0, .inr (5, [.int (nI (zs_sd te)), .int bt, .ref q1, .ref q2, .ref q3, .int 0])), (q1, .inl (cI, 24 * zs_sd te, .inl (fun _ => 0))), (q2, .inl (cI, 24 * zs_sd te, .inl (fun _ => 0))), (q3, .inl (cI, 96, .inl (fun _ => 0)))] rfl dX5_init_39 ?_
  refine zr_aload_n K 0 dX5_init_42 rfl rfl ?_
  refine zr_iconst K dX5_init_43 (by decide : _ = (1 : Int32)) ?_
  refine zr_put K (ty := .int) zin_X5_init_X5 tyX5 tyX5_ok nmX5 (q0 := 0) rfl rfl 5 (by decide) rfl zlk_X5_init_10 rfl (by decide +kernel) rfl rfl (Nat.le_of_ble_eq_true rfl) [(h0, .inr (5, [.int (nI (zs_sd te)), .int bt, .ref q1, .ref q2, .ref q3, .int (nI 1)])), (q1, .inl (cI, 24 * zs_sd te, .inl (fun _ => 0))), (q2, .inl (cI, 24 * zs_sd te, .inl (fun _ => 0))), (q3, .inl (cI, 96, .inl (fun _ => 0)))] rfl dX5_init_44 ?_
  refine zr_iconst K dX5_init_47 (by decide : _ = (0 : Int32)) ?_
  refine zr_istore K _ dX5_init_48 (by decide) rfl ?_
  have lb : ∀ qt n s0, n + s0 = zs_ns te → ∀ f t u : Nat → Int32, FS te (zkn te (4 * s0)) f → (∀ j, j < 96 → t j = if j < 4 * s0 then nI ((zlT te).getD j 0) else 0) → zr_G p l e { frames := 2, cells := 4, slots := 48 * zs_sd te + 96 + zs_sd te, locals := 100 } s m args below meth c QW D A 8 4 (48 * zs_sd te + 96 + zs_sd te) 79 [(5, .int (nI s0)), (4, .ref qt), (0, .ref h0), (1, .int (nI (zs_sd te))), (2, .int bt), (3, .ref b)] [] [(h0, .inr (5, [.int (nI (zs_sd te)), .int bt, .ref q1, .ref q2, .ref q3, .int (nI (zkn te (4 * s0)))])), (q1, .inl (cI, 24 * zs_sd te, .inl f)), (q2, .inl (cI, 24 * zs_sd te, .inl (fun _ => 0))), (q3, .inl (cI, 96, .inl t)), (qt, .inl (cI, zs_sd te, .inl u))] := by
    intro qt n
    induction n with
    | zero =>
      intro s0 hs f t u hf ht
      have e0 : s0 = zs_ns te := by omega
      subst e0
      have fin : zr_G p l e { frames := 2, cells := 4, slots := 48 * zs_sd te + 96 + zs_sd te, locals := 100 } s m args below meth c QW D A 8 4 (48 * zs_sd te + 96 + zs_sd te) 173 [(5, .int (nI (zs_ns te))), (4, .ref qt), (0, .ref h0), (1, .int (nI (zs_sd te))), (2, .int bt), (3, .ref b)] [] [(h0, .inr (5, [.int (nI (zs_sd te)), .int bt, .ref q1, .ref q2, .ref q3, .int (nI (zkn te (4 * zs_ns te)))])), (q1, .inl (cI, 24 * zs_sd te, .inl f)), (q2, .inl (cI, 24 * zs_sd te, .inl (fun _ => 0))), (q3, .inl (cI, 96, .inl t)), (qt, .inl (cI, zs_sd te, .inl u))] := by
        refine zr_aload_n K 2 dX5_init_173 rfl rfl ?_
        rw [zkn_e te] at hf ⊢
        have hff : ∀ j, j < 24 * zs_sd te → f j = nI ((zlF te).getD j 0) := by
          intro j hj
          rw [hf j hj]
          rcases Nat.lt_or_ge j (zs_ns te * zs_sd te) with z | z
          · rw [if_pos z]
          · rw [if_neg (by omega), zlF_o te j hj z]; rfl
        refine zr_callVv K (C := RX5) (wr := [(q3, .inl (cI, 96, .inl t))]) [] (zk_tellPositions l D te cI h0 q1 q2 (.int bt) (.ref q3) (.int (nI (zs_ns te))) f hff) [0, 1, 2] [3] [0] rfl rfl rfl (by decide) (by decide) (by decide) rfl (fun _ _ _ _ _ => trivial) (fun _ _ _ _ _ _ => trivial) gX5_init_X5_tellPositions rfl ⟨rfl, rfl⟩ zdsR3_yX5_tellPositions_v ⟨(Nat.le_of_ble_eq_true rfl), (Nat.le_of_ble_eq_true rfl)⟩ ⟨Nat.le_refl _, Nat.le_refl _⟩ (q0 := 0) rfl rfl rfl rfl rfl (Nat.le_of_ble_eq_true rfl) dX5_init_174 (fun u2 hq => ?_)
        obtain ⟨g2, rfl, hg2⟩ := hq
        refine zr_pick [1, 2, 3, 0] [(h0, .inr (5, [.int (nI (zs_sd te)), .int bt, .ref q1, .ref q2, .ref q3, .int (nI (zs_ns te))])), (q1, .inl (cI, 24 * zs_sd te, .inl f)), (q2, .inl (cI, 24 * zs_sd te, .inl g2)), (q3, .inl (cI, 96, .inl t))] rfl rfl (by decide) ?_
        refine zr_widen (nc2 := 4) (ns2 := 48 * zs_sd te + 96 + zs_sd te) (Nat.le_refl _) (Nat.le_refl _) ?_
        refine hret _ ⟨q1, q2, q3, f, g2, t, rfl, hff, hg2, fun j hj => ?_⟩ _ _ dX5_init_177
        rw [ht j hj]
        rcases Nat.lt_or_ge j (4 * zs_ns te) with z | z
        · rw [if_pos z]
        · rw [if_neg (by omega), zlT_o te j hj z]; rfl
      refine zr_iload K 0 dX5_init_79 rfl ?_
      refine zr_bipush K dX5_init_81 (by decide : _ = (24 : Int32)) ?_
      refine zr_icmp_ge K 173 dX5_init_83 rfl (fun _ => fin) (fun _ => ?_)
      refine zr_iload K 0 dX5_init_86 rfl ?_
      refine zr_aload_n K 2 dX5_init_88 rfl rfl ?_
      refine zr_get K zin_X5_init_X5 (q0 := 0) rfl rfl 5 (by decide) rfl zlk_X5_init_10 rfl dX5_init_89 ?_
      refine zr_icmp_ge K 173 dX5_init_92 rfl (fun _ => fin) (fun h => absurd (nI_le (by rw [zkn_e te]; exact Nat.le_refl _) (by omega)) h)
    | succ n ih =>
      intro s0 hs f t u hf ht
      obtain ⟨b1, b2, b3, b4⟩ := zkn_b te (4 * s0) (by omega)
      refine zr_iload K 0 dX5_init_79 rfl ?_
      refine zr_bipush K dX5_init_81 (by decide : _ = (24 : Int32)) ?_
      refine zr_icmp_ge K 173 dX5_init_83 rfl (fun h => absurd ((nI_leI (a := 24) (b := s0) (by omega) (by omega)).mp h) (by omega)) (fun _ => ?_)
      refine zr_iload K 0 dX5_init_86 rfl ?_
      refine zr_aload_n K 2 dX5_init_88 rfl rfl ?_
      refine zr_get K zin_X5_init_X5 (q0 := 0) rfl rfl 5 (by decide) rfl zlk_X5_init_10 rfl dX5_init_89 ?_
      refine zr_icmp_ge K 173 dX5_init_92 rfl (fun h => absurd ((nI_leI (a := zkn te (4 * s0)) (b := s0) (by omega) (by omega)).mp h) (by omega)) (fun _ => ?_)
      refine zr_iconst K dX5_init_95 (by decide : _ = (0 : Int32)) ?_
      refine zr_istore K _ dX5_init_96 (by decide) rfl ?_
      have lc : ∀ n2 w, n2 + w = 4 → ∀ f t u : Nat → Int32, FS te (zkn te (4 * s0 + w)) f → (∀ j, j < 96 → t j = if j < 4 * s0 + w then nI ((zlT te).getD j 0) else 0) → zr_G p l e { frames := 2, cells := 4, slots := 48 * zs_sd te + 96 + zs_sd te, locals := 100 } s m args below meth c QW D A 8 4 (48 * zs_sd te + 96 + zs_sd te) 98 [(6, .int (nI w)), (5, .int (nI s0)), (4, .ref qt), (0, .ref h0), (1, .int (nI (zs_sd te))), (2, .int bt), (3, .ref b)] [] [(h0, .inr (5, [.int (nI (zs_sd te)), .int bt, .ref q1, .ref q2, .ref q3, .int (nI (zkn te (4 * s0 + w)))])), (q1, .inl (cI, 24 * zs_sd te, .inl f)), (q2, .inl (cI, 24 * zs_sd te, .inl (fun _ => 0))), (q3, .inl (cI, 96, .inl t)), (qt, .inl (cI, zs_sd te, .inl u))] := by
        intro n2
        induction n2 with
        | zero =>
          intro w hw f t u hf ht
          have ew : w = 4 := by omega
          subst ew
          refine zr_iload K 0 dX5_init_98 rfl ?_
          refine zr_iconst K dX5_init_100 (by decide : _ = (4 : Int32)) ?_
          refine zr_icmp_ge K 167 dX5_init_101 rfl (fun _ => ?_) (fun h => absurd (by decide) h)
          refine zr_iinc K (cst := 1) 1 _ dX5_init_167 (by decide) rfl (by decide) rfl ?_
          refine zr_goto K 79 dX5_init_170 rfl ?_
          rw [nI_1 s0]
          refine zr_sub [0, 2, 3, 4, 5, 6] [(5, .int (nI (s0 + 1))), (4, .ref qt), (0, .ref h0), (1, .int (nI (zs_sd te))), (2, .int bt), (3, .ref b)] rfl ?_
          exact ih (s0 + 1) (by omega) f t u hf (fun j hj => by rw [ht j hj, show 4 * (s0 + 1) = 4 * s0 + 4 from by omega])
        | succ n2 ih2 =>
          intro w hw f t u0 hf ht
          have hw4 : w < 4 := by omega
          have hs0 : s0 < zs_ns te := by omega
          obtain ⟨d1, d2, d3, d4⟩ := zkn_b te (4 * s0 + w) (by omega)
          have hs1 : (4 * s0 + w) / 4 = s0 := by omega
          rw [hs1] at d2
          have hft := zlF_t te s0 hs0 w hw4
          refine zr_iload K 0 dX5_init_98 rfl ?_
          refine zr_iconst K dX5_init_100 (by decide : _ = (4 : Int32)) ?_
          refine zr_icmp_ge K 167 dX5_init_101 rfl (fun h => absurd ((nI_leI (a := 4) (b := w) (by decide) (by omega)).mp h) (by omega)) (fun _ => ?_)
          refine zr_iconst K dX5_init_104 (by decide : _ = (0 : Int32)) ?_
          refine zr_istore K _ dX5_init_105 (by decide) rfl ?_
          have ld : ∀ n3 k, n3 + k = zs_sd te → ∀ u : Nat → Int32, (∀ j, j < k → u j = nI ((zlF te).getD ((zlT te).getD (4 * s0 + w) 0 * zs_sd te + j) 0)) → zr_G p l e { frames := 2, cells := 4, slots := 48 * zs_sd te + 96 + zs_sd te, locals := 100 } s m args below meth c QW D A 8 4 (48 * zs_sd te + 96 + zs_sd te) 107 [(7, .int (nI k)), (6, .int (nI w)), (5, .int (nI s0)), (4, .ref qt), (0, .ref h0), (1, .int (nI (zs_sd te))), (2, .int bt), (3, .ref b)] [] [(h0, .inr (5, [.int (nI (zs_sd te)), .int bt, .ref q1, .ref q2, .ref q3, .int (nI (zkn te (4 * s0 + w)))])), (q1, .inl (cI, 24 * zs_sd te, .inl f)), (q2, .inl (cI, 24 * zs_sd te, .inl (fun _ => 0))), (q3, .inl (cI, 96, .inl t)), (qt, .inl (cI, zs_sd te, .inl u))] := by
            intro n3
            induction n3 with
            | zero =>
              intro k hk u hu
              refine zr_iload K 0 dX5_init_107 rfl ?_
              refine zr_iload_n K 5 dX5_init_109 rfl rfl ?_
              refine zr_icmp_ge K 143 dX5_init_110 rfl (fun _ => ?_) (fun h => absurd (nI_le (by omega) (by omega)) h)
              refine zr_aload_n K 4 dX5_init_143 rfl rfl ?_
              refine zr_get K zin_X5_init_X5 (q0 := 0) rfl rfl 4 (by decide) rfl zlk_X5_init_9 rfl dX5_init_144 ?_
              refine zr_iload K 2 dX5_init_147 rfl ?_
              refine zr_iconst K dX5_init_149 (by decide : _ = (4 : Int32)) ?_
              refine zr_imul K dX5_init_150 ?_
              refine zr_iload K 1 dX5_init_151 rfl ?_
              refine zr_iadd K dX5_init_153 ?_
              refine zr_aload_n K 4 dX5_init_154 rfl rfl ?_
              refine zr_aload K 3 dX5_init_155 rfl ?_
              rw [show nI s0 * 4 + nI w = nI (4 * s0 + w) from by rw [show nI s0 * 4 = nI (s0 * 4) from pk_mul s0 4, nI_add, Nat.mul_comm]]
              refine zr_callVi K (C := RX5) (wr := [(q2, .inl (cI, 24 * zs_sd te, .inl (fun _ => 0))), (q3, .inl (cI, 96, .inl t))]) [.ref qt] (zk_knownAs l D te cI h0 q1 qt s0 w (.int bt) (.ref q2) (.ref q3) f u hs0 hw4 hf (fun j hj => hu j (by omega))) [0, 1, 4] [2, 3] [0] rfl rfl rfl (by decide) (by decide) (by decide) rfl (fun _ _ _ _ _ => trivial) (fun _ _ _ _ _ _ => trivial) gX5_init_X5_knownAs rfl ⟨rfl, rfl⟩ zdsR3_yX5_knownAs_v ⟨(Nat.le_of_ble_eq_true rfl), (Nat.le_of_ble_eq_true rfl)⟩ ⟨Nat.le_refl _, Nat.le_refl _⟩ (q0 := 0) rfl rfl rfl rfl rfl (Nat.le_of_ble_eq_true rfl) dX5_init_157 (fun r u2 hq => ?_)
              obtain ⟨rfl, f2, rfl, hf2⟩ := hq
              refine zr_pick [2, 3, 0, 1, 4] [(h0, .inr (5, [.int (nI (zs_sd te)), .int bt, .ref q1, .ref q2, .ref q3, .int (nI (zkn te (4 * s0 + w + 1)))])), (q1, .inl (cI, 24 * zs_sd te, .inl f2)), (q2, .inl (cI, 24 * zs_sd te, .inl (fun _ => 0))), (q3, .inl (cI, 96, .inl t)), (qt, .inl (cI, zs_sd te, .inl u))] rfl rfl (by decide) ?_
              refine zr_widen (nc2 := 4) (ns2 := 48 * zs_sd te + 96 + zs_sd te) (Nat.le_refl _) (Nat.le_refl _) ?_
              refine zr_iastore K (q0 := 3) 0 rfl rfl (vp_in_nI (n := 4 * s0 + w) (by omega) (by decide)) [(h0, .inr (5, [.int (nI (zs_sd te)), .int bt, .ref q1, .ref q2, .ref q3, .int (nI (zkn te (4 * s0 + w + 1)))])), (q1, .inl (cI, 24 * zs_sd te, .inl f2)), (q2, .inl (cI, 24 * zs_sd te, .inl (fun _ => 0))), (q3, .inl (cI, 96, .inl (upd t (nI (4 * s0 + w)).toNatClampNeg (nI ((zlT te).getD (4 * s0 + w) 0))))), (qt, .inl (cI, zs_sd te, .inl u))] rfl dX5_init_160 ?_
              refine zr_iinc K (cst := 1) 1 _ dX5_init_161 (by decide) rfl (by decide) rfl ?_
              refine zr_goto K 98 dX5_init_164 rfl ?_
              rw [nI_1 w]
              refine zr_sub [0, 2, 3, 4, 5, 6, 7] [(6, .int (nI (w + 1))), (5, .int (nI s0)), (4, .ref qt), (0, .ref h0), (1, .int (nI (zs_sd te))), (2, .int bt), (3, .ref b)] rfl ?_
              refine ih2 (w + 1) (by omega) f2 _ u hf2 (fun j hj => ?_)
              rw [nI_clamp (n := 4 * s0 + w) (by omega)]
              by_cases z : j = 4 * s0 + w
              · rw [z, pk_us, if_pos (by omega)]
              · rw [pk_un z, ht j hj]
                by_cases z2 : j < 4 * s0 + w
                · rw [if_pos z2, if_pos (by omega)]
                · rw [if_neg z2, if_neg (by omega)]
            | succ n3 ih3 =>
              intro k hk u hu
              refine zr_iload K 0 dX5_init_107 rfl ?_
              refine zr_iload_n K 5 dX5_init_109 rfl rfl ?_
              refine zr_icmp_ge K 143 dX5_init_110 rfl (fun h => absurd ((nI_leI (a := zs_sd te) (b := k) (by omega) (by omega)).mp h) (by omega)) (fun _ => ?_)
              refine zr_aload K 3 dX5_init_113 rfl ?_
              refine zr_iload K 0 dX5_init_115 rfl ?_
              refine zr_aload_n K 4 dX5_init_117 rfl rfl ?_
              refine zr_get K zin_X5_init_X5 (q0 := 0) rfl rfl 2 (by decide) rfl zlk_X5_init_7 rfl dX5_init_118 ?_
              refine zr_iload K 2 dX5_init_121 rfl ?_
              refine zr_iload_n K 5 dX5_init_123 rfl rfl ?_
              refine zr_imul K dX5_init_124 ?_
              refine zr_aload_n K 7 dX5_init_125 rfl rfl ?_
              refine zr_iload K 1 dX5_init_126 rfl ?_
              refine zr_iload_n K 5 dX5_init_128 rfl rfl ?_
              refine zr_imul K dX5_init_129 ?_
              refine zr_iload K 0 dX5_init_130 rfl ?_
              refine zr_iadd K dX5_init_132 ?_
              have hwk : w * zs_sd te + k < 4 * zs_sd te := by
                have : (w + 1) * zs_sd te ≤ 4 * zs_sd te := Nat.mul_le_mul_right _ (by omega)
                rw [Nat.succ_mul] at this
                omega
              have hct := zct_b te _ hwk
              have hcb : s0 * zs_sd te + (zct te).getD (w * zs_sd te + k) 0 < (zkn te (4 * s0 + w)) * zs_sd te := by
                have : (s0 + 1) * zs_sd te ≤ (zkn te (4 * s0 + w)) * zs_sd te := Nat.mul_le_mul_right _ (by omega)
                rw [Nat.succ_mul] at this
                omega
              have hcb2 : s0 * zs_sd te + (zct te).getD (w * zs_sd te + k) 0 < 24 * zs_sd te := zr_lt (by omega) hct
              rw [zr_eo]
              refine zr_sld K hX.1 hX.2 hbA (vp_in_nI hwk (by omega)) dX5_init_133 ?_
              rw [nI_clamp (n := w * zs_sd te + k) (by omega), hxs _ hwk]
              refine zr_iadd K dX5_init_134 ?_
              rw [zr_eo]
              refine zr_iaload K (q0 := 1) 0 rfl rfl (vp_in_nI hcb2 (by omega)) dX5_init_135 ?_
              rw [nI_clamp (n := s0 * zs_sd te + (zct te).getD (w * zs_sd te + k) 0) (by omega), hf _ hcb2, if_pos hcb, hft k (by omega)]
              refine zr_iastore K (q0 := 4) 0 rfl rfl (vp_in_nI (n := k) (by omega) (by omega)) [(h0, .inr (5, [.int (nI (zs_sd te)), .int bt, .ref q1, .ref q2, .ref q3, .int (nI (zkn te (4 * s0 + w)))])), (q1, .inl (cI, 24 * zs_sd te, .inl f)), (q2, .inl (cI, 24 * zs_sd te, .inl (fun _ => 0))), (q3, .inl (cI, 96, .inl t)), (qt, .inl (cI, zs_sd te, .inl (upd u (nI k).toNatClampNeg (nI ((zlF te).getD ((zlT te).getD (4 * s0 + w) 0 * zs_sd te + k) 0)))))] rfl dX5_init_136 ?_
              refine zr_iinc K (cst := 1) 0 _ dX5_init_137 (by decide) rfl (by decide) rfl ?_
              refine zr_goto K 107 dX5_init_140 rfl ?_
              rw [nI_1 k]
              refine ih3 (k + 1) (by omega) _ (fun j hj => ?_)
              rw [nI_clamp (n := k) (by omega)]
              rcases Nat.lt_succ_iff_lt_or_eq.mp hj with z | z
              · rw [pk_un (by omega)]; exact hu j z
              · rw [z, pk_us]
          exact ld (zs_sd te) 0 rfl u0 (fun j hj => absurd hj (Nat.not_lt_zero j))
      exact lc 4 0 rfl f t u hf ht
  have la : ∀ n k, n + k = zs_sd te → ∀ f : Nat → Int32, (∀ j, j < 24 * zs_sd te → f j = if j < k then nI j else 0) → zr_G p l e { frames := 2, cells := 4, slots := 48 * zs_sd te + 96 + zs_sd te, locals := 100 } s m args below meth c QW D A 8 3 (48 * zs_sd te + 96) 50 [(4, .int (nI k)), (0, .ref h0), (1, .int (nI (zs_sd te))), (2, .int bt), (3, .ref b)] [] [(h0, .inr (5, [.int (nI (zs_sd te)), .int bt, .ref q1, .ref q2, .ref q3, .int (nI 1)])), (q1, .inl (cI, 24 * zs_sd te, .inl f)), (q2, .inl (cI, 24 * zs_sd te, .inl (fun _ => 0))), (q3, .inl (cI, 96, .inl (fun _ => 0)))] := by
    intro n
    induction n with
    | zero =>
      intro k hk f hf
      refine zr_iload K 0 dX5_init_50 rfl ?_
      refine zr_iload_n K 2 dX5_init_52 rfl rfl ?_
      refine zr_icmp_ge K 71 dX5_init_53 rfl (fun _ => ?_) (fun h => absurd (nI_le (by omega) (by omega)) h)
      refine zr_iload_n K 2 dX5_init_71 rfl rfl ?_
      refine zr_newi K 0 rfl (N' := zs_sd te) zlk_X5_init_6 (nI_pos (by omega)) (nI_clamp (by omega)) (by omega) (by show 3 + 1 ≤ 4; omega) (by show 48 * zs_sd te + 96 + zs_sd te ≤ 48 * zs_sd te + 96 + zs_sd te; omega) dX5_init_72 (fun qt => ?_)
      refine zr_ws (ws2 := [(h0, .inr (5, [.int (nI (zs_sd te)), .int bt, .ref q1, .ref q2, .ref q3, .int (nI 1)])), (q1, .inl (cI, 24 * zs_sd te, .inl f)), (q2, .inl (cI, 24 * zs_sd te, .inl (fun _ => 0))), (q3, .inl (cI, 96, .inl (fun _ => 0))), (qt, .inl (cI, zs_sd te, .inl (fun _ => 0)))]) rfl ?_
      refine zr_widen (nc2 := 4) (ns2 := 48 * zs_sd te + 96 + zs_sd te) (Nat.le_refl _) (Nat.le_refl _) ?_
      refine zr_astore K _ dX5_init_74 (by decide) rfl ?_
      refine zr_iconst K dX5_init_76 (by decide : _ = (0 : Int32)) ?_
      refine zr_istore K _ dX5_init_77 (by decide) rfl ?_
      refine lb qt (zs_ns te) 0 rfl f _ _ (fun j hj => ?_) (fun j hj => rfl)
      rw [hf j hj, show k = zs_sd te from by omega, show zkn te (4 * 0) * zs_sd te = zs_sd te from Nat.one_mul _]
      by_cases z : j < zs_sd te
      · rw [if_pos z, if_pos z, zlF_1 te j z]
      · rw [if_neg z, if_neg z]
    | succ n ih =>
      intro k hk f hf
      refine zr_iload K 0 dX5_init_50 rfl ?_
      refine zr_iload_n K 2 dX5_init_52 rfl rfl ?_
      refine zr_icmp_ge K 71 dX5_init_53 rfl (fun h => absurd ((nI_leI (a := zs_sd te) (b := k) (by omega) (by omega)).mp h) (by omega)) (fun _ => ?_)
      refine zr_aload_n K 1 dX5_init_56 rfl rfl ?_
      refine zr_get K zin_X5_init_X5 (q0 := 0) rfl rfl 2 (by decide) rfl zlk_X5_init_7 rfl dX5_init_57 ?_
      refine zr_iload K 0 dX5_init_60 rfl ?_
      refine zr_iload K 0 dX5_init_62 rfl ?_
      refine zr_iastore K (q0 := 1) 0 rfl rfl (vp_in_nI (n := k) (by omega) (by omega)) [(h0, .inr (5, [.int (nI (zs_sd te)), .int bt, .ref q1, .ref q2, .ref q3, .int (nI 1)])), (q1, .inl (cI, 24 * zs_sd te, .inl (upd f (nI k).toNatClampNeg (nI k)))), (q2, .inl (cI, 24 * zs_sd te, .inl (fun _ => 0))), (q3, .inl (cI, 96, .inl (fun _ => 0)))] rfl dX5_init_64 ?_
      refine zr_iinc K (cst := 1) 0 _ dX5_init_65 (by decide) rfl (by decide) rfl ?_
      refine zr_goto K 50 dX5_init_68 rfl ?_
      rw [nI_1 k]
      refine ih (k + 1) (by omega) _ (fun j hj => ?_)
      rw [nI_clamp (n := k) (by omega)]
      by_cases z : j = k
      · rw [z, pk_us, if_pos (by omega)]
      · rw [pk_un z, hf j hj]
        by_cases z2 : j < k
        · rw [if_pos z2, if_pos (by omega)]
        · rw [if_neg z2, if_neg (by omega)]
  exact la (zs_sd te) 0 rfl _ (fun j hj => rfl)
