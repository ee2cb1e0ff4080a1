theorem zlk_X5_knownAs_4 : Cond.methodLink RX5 42 arraycopyName ∈ wsX5_knownAs := List.mem_of_getElem? (i := 4) rfl
theorem zlk_X5_knownAs_5 : Cond.native arraycopyName ∈ wsX5_knownAs := List.mem_of_getElem? (i := 5) rfl
theorem zlk_X5_knownAs_6 : Cond.static arraycopyName ∈ wsX5_knownAs := List.mem_of_getElem? (i := 6) rfl
theorem zlk_X5_knownAs_7 : Cond.initialized "java/lang/System" ∈ wsX5_knownAs := List.mem_of_getElem? (i := 7) rfl
theorem zin_X5_knownAs_X5 : ∀ w ∈ wsX50, w ∈ wsX5_knownAs := fun w h => List.mem_cons_of_mem _ (List.mem_append_right _ h)
theorem zlk_X5_knownAs_1 : Cond.fieldLink RX5 28 "SolidsRolled$Stances" "known" "I" ∈ wsX5_knownAs := List.mem_of_getElem? (i := 1) rfl
theorem zlk_X5_knownAs_2 : Cond.fieldLink RX5 18 "SolidsRolled$Stances" "faceAt" "[I" ∈ wsX5_knownAs := List.mem_of_getElem? (i := 2) rfl
theorem zlk_X5_knownAs_3 : Cond.fieldLink RX5 9 "SolidsRolled$Stances" "sides" "I" ∈ wsX5_knownAs := List.mem_of_getElem? (i := 3) rfl
theorem zdsR2_yX5_isStance_v : yX5_isStance.cls = RX5 ∧ yX5_isStance.cls ≠ "java/lang/invoke/MethodHandle" ∧ yX5_isStance.cls ≠ "java/lang/invoke/VarHandle" ∧ (parseMethodDescriptor yX5_isStance.desc).map (fun d => d.parameters.length) = some 2 := by decide +kernel
theorem upd_eqv {f : Nat → Int32} {k : Nat} {x : Int32} (j : Nat) : upd f k x j = if j = k then x else f j := rfl
def zX (b L : Nat) (xs : Nat → Int32) (U : State) : Prop := va_X b L xs U U.heap ∧ b < U.heap.size
theorem zX.X (b L : Nat) (xs : Nat → Int32) : zr_X (zX b L xs) := fun u U hh ha h => ⟨by rw [hh]; exact va_X.moved ha h.1, by rw [hh]; exact h.2⟩
theorem zX.on {b L : Nat} {xs : Nat → Int32} {s U : State} {A : Nat → Prop} {H : Heap} {locs : List Loc} (h : zX b L xs s) (hA : ¬ A b) (hS : va_S A s.heap H locs) (hU : U.heap = H) (ha : s.vm.Alike U.vm) : zX b L xs U := by
  refine ⟨?_, ?_⟩
  · rw [hU]
    exact va_X.moved ha (h.1.kept (hS.2.1 b h.2 hA))
  · rw [hU]
    exact Nat.lt_of_lt_of_le h.2 hS.1
set_option maxHeartbeats 8000000 in
set_option maxRecDepth 100000 in
theorem zk_knownAs (l : Launch) (D : va_G) (te : Bool) (cI : ClassId) (h0 q1 qt s0 w : Nat) (vb v2 v3 : Value) (f u : Nat → Int32) (hs0 : s0 < zs_ns te) (hw : w < 4) (hf : FS te (zkn te (4 * s0 + w)) f) (hu : ∀ j, j < zs_sd te → u j = nI ((zlF te).getD ((zlT te).getD (4 * s0 + w) 0 * zs_sd te + j) 0)) : zr_Mi l yX5_knownAs wsX5_knownAs { frames := 1, cells := 0, slots := 0, locals := 60 } D [(cI, .int)] [.ref h0, .ref qt] (fun _ => True) [(h0, .inr (5, [.int (nI (zs_sd te)), vb, .ref q1, v2, v3, .int (nI (zkn te (4 * s0 + w)))])), (q1, .inl (cI, 24 * zs_sd te, .inl f)), (qt, .inl (cI, zs_sd te, .inl u))] (fun r ws2 => r = nI ((zlT te).getD (4 * s0 + w) 0) ∧ ∃ f2 : Nat → Int32, ws2 = [(h0, .inr (5, [.int (nI (zs_sd te)), vb, .ref q1, v2, v3, .int (nI (zkn te (4 * s0 + w + 1)))])), (q1, .inl (cI, 24 * zs_sd te, .inl f2)), (qt, .inl (cI, zs_sd te, .inl u))] ∧ FS te (zkn te (4 * s0 + w + 1)) f2) 0 0 := by
  have hsd := zs_sd_b te
  have hns : zs_ns te ≤ 24 := zs_ns_le te
  obtain ⟨b1, b2, b3, b4⟩ := zkn_b te (4 * s0 + w) (by omega)
  have hK : zkn te (4 * s0 + w + 1) = max (zkn te (4 * s0 + w)) ((zlT te).getD (4 * s0 + w) 0 + 1) := rfl
  have hfu := fun o ho => zlF_u te o ho ((zlT te).getD (4 * s0 + w) 0) b4
  generalize hK1 : zkn te (4 * s0 + w + 1) = K1 at *
  generalize hK0 : zkn te (4 * s0 + w) = K0 at *
  generalize hT : (zlT te).getD (4 * s0 + w) 0 = T at *
  refine zr_Mi.of (cc := cX5_knownAs) (maxL := 3) (by decide +kernel) rfl (Nat.le_of_ble_eq_true rfl) ?_
  intro p e s m args below meth c A QW K hX hNA hret
  refine zr_sub [0, 1] [(0, .ref h0), (1, .ref qt)] rfl ?_
  refine zr_iconst K dX5_knownAs_0 (by decide : _ = (0 : Int32)) ?_
  refine zr_istore_n K _ dX5_knownAs_1 rfl (by decide) rfl ?_
  have l3 : ∀ n k, n + k = K0 → (∀ j, j < k → ¬ j = T) → zr_G p l e { frames := 1, cells := 0, slots := 0, locals := 60 } s m args below meth c QW D A 3 0 0 2 [(2, .int (nI k)), (0, .ref h0), (1, .ref qt)] [] [(h0, .inr (5, [.int (nI (zs_sd te)), vb, .ref q1, v2, v3, .int (nI K0)])), (q1, .inl (cI, 24 * zs_sd te, .inl f)), (qt, .inl (cI, zs_sd te, .inl u))] := by
    intro n
    induction n with
    | zero =>
      intro k hk hj
      refine zr_iload_n K 0 dX5_knownAs_2 rfl rfl ?_
      refine zr_aload_n K 1 dX5_knownAs_3 rfl rfl ?_
      refine zr_get K zin_X5_knownAs_X5 (q0 := 0) rfl rfl 5 (by decide) rfl zlk_X5_knownAs_1 rfl dX5_knownAs_4 ?_
      refine zr_icmp_ge K 27 dX5_knownAs_7 rfl (fun _ => ?_) (fun h => absurd (nI_le (by omega) (by omega)) h)
      have hTK : T = K0 := by
        rcases Nat.lt_or_ge T K0 with z | z
        · exact absurd rfl (hj T (by omega))
        · omega
      refine zr_aload_n K 1 dX5_knownAs_27 rfl rfl ?_
      refine zr_get K zin_X5_knownAs_X5 (q0 := 0) rfl rfl 5 (by decide) rfl zlk_X5_knownAs_1 rfl dX5_knownAs_28 ?_
      refine zr_bipush K dX5_knownAs_31 (by decide : _ = (24 : Int32)) ?_
      refine zr_icmp_lt K 38 dX5_knownAs_33 rfl (fun _ => ?_) (fun h => absurd (nI_lt (a := K0) (b := 24) (by omega) (by decide)) h)
      refine zr_aload_n K 2 dX5_knownAs_38 rfl rfl ?_
      refine zr_iconst K dX5_knownAs_39 (by decide : _ = (0 : Int32)) ?_
      refine zr_aload_n K 1 dX5_knownAs_40 rfl rfl ?_
      refine zr_get K zin_X5_knownAs_X5 (q0 := 0) rfl rfl 2 (by decide) rfl zlk_X5_knownAs_2 rfl dX5_knownAs_41 ?_
      refine zr_aload_n K 1 dX5_knownAs_44 rfl rfl ?_
      refine zr_get K zin_X5_knownAs_X5 (q0 := 0) rfl rfl 5 (by decide) rfl zlk_X5_knownAs_1 rfl dX5_knownAs_45 ?_
      refine zr_aload_n K 1 dX5_knownAs_48 rfl rfl ?_
      refine zr_get K zin_X5_knownAs_X5 (q0 := 0) rfl rfl 0 (by decide) rfl zlk_X5_knownAs_3 rfl dX5_knownAs_49 ?_
      refine zr_imul K dX5_knownAs_52 ?_
      rw [show nI K0 * nI (zs_sd te) = nI (K0 * zs_sd te) from pk_mul K0 _]
      have hKs : K0 * zs_sd te + zs_sd te ≤ 24 * zs_sd te := by
        have : (K0 + 1) * zs_sd te ≤ 24 * zs_sd te := Nat.mul_le_mul_right _ (by omega)
        rw [Nat.succ_mul] at this
        omega
      refine zr_aload_n K 1 dX5_knownAs_53 rfl rfl ?_
      refine zr_get K zin_X5_knownAs_X5 (q0 := 0) rfl rfl 0 (by decide) rfl zlk_X5_knownAs_3 rfl dX5_knownAs_54 ?_
      refine zr_copy K (q0 := 2) (q1 := 1) 0 0 zlk_X5_knownAs_4 zlk_X5_knownAs_5 zlk_X5_knownAs_6 zlk_X5_knownAs_7 rfl rfl rfl rfl (by decide) (nI_pos (by omega)) (nI_pos (by omega)) (by rw [zt_0, nI_clamp (by omega)]; omega) (by rw [nI_clamp (by omega), nI_clamp (by omega)]; omega) (Nat.le_of_ble_eq_true rfl) (Nat.le_of_ble_eq_true rfl) dX5_knownAs_57 ?_
      obtain ⟨f2, hf2⟩ : ∃ f2 : Nat → Int32, f2 = va_cpy u f (0 : Int32).toNatClampNeg (nI (K0 * zs_sd te)).toNatClampNeg (nI (zs_sd te)).toNatClampNeg := ⟨_, rfl⟩
      rw [← hf2]
      rw [zt_0, nI_clamp (by omega), nI_clamp (by omega)] at hf2
      refine zr_ws (ws2 := [(h0, .inr (5, [.int (nI (zs_sd te)), vb, .ref q1, v2, v3, .int (nI K0)])), (q1, .inl (cI, 24 * zs_sd te, .inl f2)), (qt, .inl (cI, zs_sd te, .inl u))]) rfl ?_
      refine zr_aload_n K 1 dX5_knownAs_60 rfl rfl ?_
      refine zr_dup K rfl dX5_knownAs_61 ?_
      refine zr_get K zin_X5_knownAs_X5 (q0 := 0) rfl rfl 5 (by decide) rfl zlk_X5_knownAs_1 rfl dX5_knownAs_62 ?_
      refine zr_iconst K dX5_knownAs_65 (by decide : _ = (1 : Int32)) ?_
      refine zr_iadd K dX5_knownAs_66 ?_
      rw [nI_1 K0]
      refine zr_put K (ty := .int) zin_X5_knownAs_X5 tyX5 tyX5_ok nmX5 (q0 := 0) rfl rfl 5 (by decide) rfl zlk_X5_knownAs_1 rfl (by decide +kernel) rfl rfl (Nat.le_of_ble_eq_true rfl) [(h0, .inr (5, [.int (nI (zs_sd te)), vb, .ref q1, v2, v3, .int (nI (K0 + 1))])), (q1, .inl (cI, 24 * zs_sd te, .inl f2)), (qt, .inl (cI, zs_sd te, .inl u))] rfl dX5_knownAs_67 ?_
      refine zr_aload_n K 1 dX5_knownAs_70 rfl rfl ?_
      refine zr_get K zin_X5_knownAs_X5 (q0 := 0) rfl rfl 5 (by decide) rfl zlk_X5_knownAs_1 rfl dX5_knownAs_71 ?_
      refine zr_iconst K dX5_knownAs_74 (by decide : _ = (1 : Int32)) ?_
      refine zr_isub K dX5_knownAs_75 ?_
      rw [show nI (K0 + 1) - 1 = nI K0 from pk_sub (b := 1) (by omega)]
      have eK : K1 = K0 + 1 := by omega
      refine hret _ _ rfl ⟨by rw [hTK], f2, by rw [eK], fun j hj => ?_⟩ _ _ dX5_knownAs_76
      rw [hf2, eK, Nat.succ_mul]
      rcases Nat.lt_or_ge j (K0 * zs_sd te) with z | z
      · rw [pk_cpy_out (Or.inl z), hf j hj, if_pos z, if_pos (by omega)]
      · rcases Nat.lt_or_ge j (K0 * zs_sd te + zs_sd te) with z2 | z2
        · rw [pk_cpy_in z z2, if_pos z2, hu _ (by omega), hTK]
          congr 2
          omega
        · rw [pk_cpy_out (Or.inr z2), hf j hj, if_neg (by omega), if_neg (by omega)]
    | succ n ih =>
      intro k hk hj
      refine zr_iload_n K 0 dX5_knownAs_2 rfl rfl ?_
      refine zr_aload_n K 1 dX5_knownAs_3 rfl rfl ?_
      refine zr_get K zin_X5_knownAs_X5 (q0 := 0) rfl rfl 5 (by decide) rfl zlk_X5_knownAs_1 rfl dX5_knownAs_4 ?_
      refine zr_icmp_ge K 27 dX5_knownAs_7 rfl (fun h => absurd ((nI_leI (a := K0) (b := k) (by omega) (by omega)).mp h) (by omega)) (fun _ => ?_)
      refine zr_aload_n K 1 dX5_knownAs_10 rfl rfl ?_
      refine zr_iload_n K 0 dX5_knownAs_11 rfl rfl ?_
      refine zr_aload_n K 2 dX5_knownAs_12 rfl rfl ?_
      refine zr_callVi K (C := RX5) (wr := []) [.int (nI k), .ref qt] (zk_isStance l D cI h0 q1 qt k (zs_sd te) vb v2 v3 (.int (nI K0)) f u (by omega) hsd) [0, 1, 2] [] [0] rfl rfl rfl (by decide) (by decide) (by decide) rfl (fun _ _ _ _ _ => trivial) (fun _ _ _ _ _ _ => trivial) gX5_knownAs_X5_isStance rfl ⟨rfl, rfl⟩ zdsR2_yX5_isStance_v ⟨(Nat.le_of_ble_eq_true rfl), (Nat.le_of_ble_eq_true rfl)⟩ ⟨Nat.le_refl _, Nat.le_refl _⟩ (q0 := 0) rfl rfl rfl rfl rfl (Nat.le_of_ble_eq_true rfl) dX5_knownAs_13 (fun r u2 hq => ?_)
      obtain ⟨rfl, hr⟩ := hq
      refine zr_ws (ws2 := [(h0, .inr (5, [.int (nI (zs_sd te)), vb, .ref q1, v2, v3, .int (nI K0)])), (q1, .inl (cI, 24 * zs_sd te, .inl f)), (qt, .inl (cI, zs_sd te, .inl u))]) rfl ?_
      refine zr_widen (nc2 := 0) (ns2 := 0) (Nat.le_refl _) (Nat.le_refl _) ?_
      have hfk : ∀ j, j < zs_sd te → f (k * zs_sd te + j) = nI ((zlF te).getD (k * zs_sd te + j) 0) := by
        intro j hj
        have hlt : k * zs_sd te + j < K0 * zs_sd te := by
          have : (k + 1) * zs_sd te ≤ K0 * zs_sd te := Nat.mul_le_mul_right _ (by omega)
          rw [Nat.succ_mul] at this
          omega
        rw [hf _ (zr_lt (by omega) hj), if_pos hlt]
      refine zr_if_eq K 21 dX5_knownAs_16 rfl (fun h => ?_) (fun h => ?_)
      · have hne : ¬ k = T := by
          intro z
          rcases hr with ⟨_, c2⟩ | ⟨c1, _⟩
          · rw [c2] at h; exact absurd h (by decide)
          · exact c1 (fun j hj => by rw [hfk j hj, hu j hj, z])
        refine zr_iinc K (cst := 1) 0 _ dX5_knownAs_21 (by decide) rfl (by decide) rfl ?_
        refine zr_goto K 2 dX5_knownAs_24 rfl ?_
        rw [nI_1]
        refine ih (k + 1) (by omega) (fun j hjk => ?_)
        rcases Nat.lt_succ_iff_lt_or_eq.mp hjk with z | z
        · exact hj j z
        · rw [z]; exact hne
      · have hkT : k = T := by
          rcases hr with ⟨c1, _⟩ | ⟨_, c2⟩
          · refine hfu k (by omega) (fun j hj => ?_)
            have e1 := c1 j hj
            rw [hfk j hj, hu j hj] at e1
            have x1 := zlF_b te (k * zs_sd te + j) (zr_lt (by omega) hj)
            have x2 := zlF_b te (T * zs_sd te + j) (zr_lt (by omega) hj)
            exact (nI_eq (by omega) (by omega)).mp e1
          · exact absurd c2 h
        refine zr_iload_n K 0 dX5_knownAs_19 rfl rfl ?_
        have eK : K1 = K0 := by omega
        exact hret _ _ rfl ⟨by rw [hkT], f, by rw [eK], by rw [eK]; exact hf⟩ _ _ dX5_knownAs_20
  exact l3 K0 0 rfl (fun j hj => absurd hj (Nat.not_lt_zero j))
