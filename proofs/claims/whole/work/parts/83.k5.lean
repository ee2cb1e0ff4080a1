/-! Stances: what its numbers are -/
noncomputable def zlF (te : Bool) : List Nat := if te then zs_TF else zs_CF
noncomputable def zlT (te : Bool) : List Nat := if te then zs_TT else zs_CT
noncomputable def zlP (te : Bool) : List Nat := if te then zs_TP else zs_CP
def zct (te : Bool) : List Nat := if te then [3, 1, 2, 0, 2, 0, 3, 1, 3, 1, 2, 0, 1, 3, 0, 2] else [4, 2, 0, 3, 1, 5, 5, 3, 2, 0, 4, 1, 2, 4, 1, 3, 0, 5, 3, 5, 2, 1, 4, 0]
/-- how many stances are known behind n turns -/
noncomputable def zkn (te : Bool) : Nat → Nat
  | 0 => 1
  | n + 1 => max (zkn te n) ((zlT te).getD n 0 + 1)
theorem zkn_b : ∀ te : Bool, ∀ n, n < 4 * zs_ns te → (zlT te).getD n 0 ≤ zkn te n ∧ n / 4 < zkn te n ∧ zkn te n ≤ zs_ns te ∧ (zlT te).getD n 0 < zs_ns te := by
  intro te
  cases te
  · exact (by decide +kernel : ∀ n, n < 96 → (zlT false).getD n 0 ≤ zkn false n ∧ n / 4 < zkn false n ∧ zkn false n ≤ 24 ∧ (zlT false).getD n 0 < 24)
  · exact (by decide +kernel : ∀ n, n < 32 → (zlT true).getD n 0 ≤ zkn true n ∧ n / 4 < zkn true n ∧ zkn true n ≤ 8 ∧ (zlT true).getD n 0 < 8)
theorem zkn_e : ∀ te : Bool, zkn te (4 * zs_ns te) = zs_ns te := by
  intro te
  cases te <;> decide +kernel
theorem zct_b : ∀ te : Bool, ∀ j, j < 4 * zs_sd te → (zct te).getD j 0 < zs_sd te := by
  intro te
  cases te <;> decide +kernel
theorem zlF_t : ∀ te : Bool, ∀ s, s < zs_ns te → ∀ w, w < 4 → ∀ p, p < zs_sd te → (zlF te).getD (s * zs_sd te + (zct te).getD (w * zs_sd te + p) 0) 0 = (zlF te).getD ((zlT te).getD (4 * s + w) 0 * zs_sd te + p) 0 := by
  intro te
  cases te
  · exact (by decide +kernel : ∀ s, s < 24 → ∀ w, w < 4 → ∀ p, p < 6 → (zlF false).getD (s * 6 + (zct false).getD (w * 6 + p) 0) 0 = (zlF false).getD ((zlT false).getD (4 * s + w) 0 * 6 + p) 0)
  · exact (by decide +kernel : ∀ s, s < 8 → ∀ w, w < 4 → ∀ p, p < 4 → (zlF true).getD (s * 4 + (zct true).getD (w * 4 + p) 0) 0 = (zlF true).getD ((zlT true).getD (4 * s + w) 0 * 4 + p) 0)
theorem zlF_b : ∀ te : Bool, ∀ j, j < 24 * zs_sd te → (zlF te).getD j 0 < 6 := by
  intro te
  cases te <;> decide +kernel
theorem zlF_u : ∀ te : Bool, ∀ s, s < zs_ns te → ∀ t, t < zs_ns te → (∀ p, p < zs_sd te → (zlF te).getD (s * zs_sd te + p) 0 = (zlF te).getD (t * zs_sd te + p) 0) → s = t := by
  intro te
  cases te
  · exact (by decide +kernel : ∀ s, s < 24 → ∀ t, t < 24 → (∀ p, p < 6 → (zlF false).getD (s * 6 + p) 0 = (zlF false).getD (t * 6 + p) 0) → s = t)
  · exact (by decide +kernel : ∀ s, s < 8 → ∀ t, t < 8 → (∀ p, p < 4 → (zlF true).getD (s * 4 + p) 0 = (zlF true).getD (t * 4 + p) 0) → s = t)
theorem zs_sd_b (te : Bool) : 1 ≤ zs_sd te ∧ zs_sd te ≤ 6 := by cases te <;> decide
/-- the rows of faces as far as they are known -/
def FS (te : Bool) (K : Nat) (f : Nat → Int32) : Prop := ∀ j, j < 24 * zs_sd te → f j = if j < K * zs_sd te then nI ((zlF te).getD j 0) else 0
theorem zr_eo {o sd p : Nat} : nI o * nI sd + nI p = nI (o * sd + p) := by rw [show nI o * nI sd = nI (o * sd) from pk_mul o sd, nI_add]
theorem zr_lt {o sd p : Nat} (ho : o < 24) (hp : p < sd) : o * sd + p < 24 * sd := by
  have : (o + 1) * sd ≤ 24 * sd := Nat.mul_le_mul_right _ ho
  rw [Nat.succ_mul] at this
  omega
section ZR3
variable {p : Program} {l : Launch} {e : Env} {R : Room} {s : State} {m : MethodId} {args : Array Value} {below : List Frame} {meth : Method} {c : Code} {Q : State → Prop} {D : va_G} {tys : List (ClassId × FieldType)} {A : Nat → Prop} {cc : ByteArray} {nL nc ns : Nat} {own : String} {Ts : List Cond} {pc : Nat} {lv : List (Nat × Value)} {st : List Value} {ws : va_W}
theorem zr_pick (is : List Nat) (ws2 : va_W) (h1 : is.filterMap (fun i => ws[i]?) = ws2) (h2 : is.map (fun i => ws[i]?) = ws2.map some) (hn : va_nd is = true) (kk : zr_G p l e R s m args below meth c Q D A nL nc ns pc lv st ws2) : zr_G p l e R s m args below meth c Q D A nL nc ns pc lv st ws :=
  fun H locs ls hP hD hS hl => kk H locs ls (hP.sub is h1) (hD.sub is hn h2) hS hl
theorem zr_copy (K : zr_K p s m args c cc nL own Ts D tys A) {idx q0 q1 a0 a n0 n1 : Nat} {c0 c1 : ClassId} {f g : Nat → Int32} {sp dp n : Int32} (t0 t1 : Nat) (hl0 : Cond.methodLink own idx arraycopyName ∈ Ts) (hl1 : Cond.native arraycopyName ∈ Ts) (hl2 : Cond.static arraycopyName ∈ Ts) (hl3 : Cond.initialized "java/lang/System" ∈ Ts) (ha0 : ws[q0]? = some (a0, .inl (c0, n0, .inl f))) (ha1 : ws[q1]? = some (a, .inl (c1, n1, .inl g))) (ht0 : tys[t0]? = some (c0, .int)) (ht1 : tys[t1]? = some (c1, .int)) (h1 : ¬ sp < 0) (h2 : ¬ dp < 0) (h3 : ¬ n < 0) (h4 : sp.toNatClampNeg + n.toNatClampNeg ≤ n0) (h5 : dp.toNatClampNeg + n.toNatClampNeg ≤ n1) (hfr : 1 ≤ R.frames) (hlo : (st.map fun v => v.category).sum + (nativeFrameWords "java/lang/System" "arraycopy" 5 + 11) ≤ R.locals) (hd : decode cc pc = .ok (.invokestatic idx, 3)) (kk : zr_G p l e R s m args below meth c Q D A nL nc ns (pc + 3) lv st (ws.set q1 (a, .inl (c1, n1, .inl (va_cpy f g sp.toNatClampNeg dp.toNatClampNeg n.toNatClampNeg))))) : zr_G p l e R s m args below meth c Q D A nL nc ns pc lv (.int n :: .int dp :: .ref a :: .int sp :: .ref a0 :: st) ws :=
  fun H locs ls hP hD hS hl => va_copyi K.1.1 K.1.2.1 (by rw [hl.1]; exact K.1.2.2.1) K.1.2.2.2.1 (K.1.2.2.2.2 _ hl0) (K.1.2.2.2.2 _ hl1) (K.1.2.2.2.2 _ hl2) (K.1.2.2.2.2 _ hl3) K.2.1 hP hD hS q0 q1 t0 t1 ha0 ha1 ht0 ht1 rfl h1 h2 h3 h4 h5 (fun _ _ => rfl) hfr hlo hd (fun H1 locs1 hP1 hD1 hS1 => kk H1 locs1 ls hP1 hD1 hS1 hl)
end ZR3

theorem zin_X5_isStance_X5 : ∀ w ∈ wsX50, w ∈ wsX5_isStance := fun w h => List.mem_cons_of_mem _ (List.mem_append_right _ h)
theorem zlk_X5_isStance_1 : Cond.fieldLink RX5 9 "SolidsRolled$Stances" "sides" "I" ∈ wsX5_isStance := List.mem_of_getElem? (i := 1) rfl
theorem zlk_X5_isStance_2 : Cond.fieldLink RX5 18 "SolidsRolled$Stances" "faceAt" "[I" ∈ wsX5_isStance := List.mem_of_getElem? (i := 2) rfl
set_option maxHeartbeats 4000000 in
set_option maxRecDepth 100000 in
theorem zk_isStance (l : Launch) (D : va_G) (cI : ClassId) (h0 q1 qt o sd : Nat) (vb v2 v3 vk : Value) (f u : Nat → Int32) (ho : o < 24) (hsd : 1 ≤ sd ∧ sd ≤ 6) : zr_Mi l yX5_isStance wsX5_isStance { frames := 0, cells := 0, slots := 0, locals := 0 } D [(cI, .int)] [.ref h0, .int (nI o), .ref qt] (fun _ => True) [(h0, .inr (5, [.int (nI sd), vb, .ref q1, v2, v3, vk])), (q1, .inl (cI, 24 * sd, .inl f)), (qt, .inl (cI, sd, .inl u))] (fun r ws2 => ws2 = [(h0, .inr (5, [.int (nI sd), vb, .ref q1, v2, v3, vk])), (q1, .inl (cI, 24 * sd, .inl f)), (qt, .inl (cI, sd, .inl u))] ∧ ((∀ k, k < sd → f (o * sd + k) = u k) ∧ r = 1 ∨ (¬ ∀ k, k < sd → f (o * sd + k) = u k) ∧ r = 0)) 0 0 := by
  refine zr_Mi.of (cc := cX5_isStance) (maxL := 4) (by decide +kernel) rfl (Nat.le_of_ble_eq_true rfl) ?_
  intro p e s m args below meth c A QW K hX hNA hret
  refine zr_sub [0, 1, 2] [(0, .ref h0), (1, .int (nI o)), (2, .ref qt)] rfl ?_
  refine zr_iconst K dX5_isStance_0 (by decide : _ = (0 : Int32)) ?_
  refine zr_istore_n K _ dX5_isStance_1 rfl (by decide) rfl ?_
  have lp : ∀ n k, n + k = sd → (∀ j, j < k → f (o * sd + j) = u j) → zr_G p l e { frames := 0, cells := 0, slots := 0, locals := 0 } s m args below meth c QW D A 4 0 0 2 [(3, .int (nI k)), (0, .ref h0), (1, .int (nI o)), (2, .ref qt)] [] [(h0, .inr (5, [.int (nI sd), vb, .ref q1, v2, v3, vk])), (q1, .inl (cI, 24 * sd, .inl f)), (qt, .inl (cI, sd, .inl u))] := by
    intro n
    induction n with
    | zero =>
      intro k hk hj
      refine zr_iload_n K 0 dX5_isStance_2 rfl rfl ?_
      refine zr_aload_n K 1 dX5_isStance_3 rfl rfl ?_
      refine zr_get K zin_X5_isStance_X5 (q0 := 0) rfl rfl 0 (by decide) rfl zlk_X5_isStance_1 rfl dX5_isStance_4 ?_
      refine zr_icmp_ge K 37 dX5_isStance_7 rfl (fun _ => ?_) (fun h => absurd (nI_le (by omega) (by omega)) h)
      refine zr_iconst K dX5_isStance_37 (by decide : _ = (1 : Int32)) ?_
      exact hret _ _ rfl ⟨rfl, Or.inl ⟨fun j h => hj j (by omega), rfl⟩⟩ _ _ dX5_isStance_38
    | succ n ih =>
      intro k hk hj
      refine zr_iload_n K 0 dX5_isStance_2 rfl rfl ?_
      refine zr_aload_n K 1 dX5_isStance_3 rfl rfl ?_
      refine zr_get K zin_X5_isStance_X5 (q0 := 0) rfl rfl 0 (by decide) rfl zlk_X5_isStance_1 rfl dX5_isStance_4 ?_
      refine zr_icmp_ge K 37 dX5_isStance_7 rfl (fun h => absurd ((nI_leI (a := sd) (b := k) (by omega) (by omega)).mp h) (by omega)) (fun _ => ?_)
      refine zr_aload_n K 1 dX5_isStance_10 rfl rfl ?_
      refine zr_get K zin_X5_isStance_X5 (q0 := 0) rfl rfl 2 (by decide) rfl zlk_X5_isStance_2 rfl dX5_isStance_11 ?_
      refine zr_iload_n K 2 dX5_isStance_14 rfl rfl ?_
      refine zr_aload_n K 1 dX5_isStance_15 rfl rfl ?_
      refine zr_get K zin_X5_isStance_X5 (q0 := 0) rfl rfl 0 (by decide) rfl zlk_X5_isStance_1 rfl dX5_isStance_16 ?_
      refine zr_imul K dX5_isStance_19 ?_
      refine zr_iload_n K 0 dX5_isStance_20 rfl rfl ?_
      refine zr_iadd K dX5_isStance_21 ?_
      rw [zr_eo]
      have hlt : o * sd + k < 24 * sd := zr_lt ho (by omega)
      refine zr_iaload K (q0 := 1) 0 rfl rfl (vp_in_nI hlt (by omega)) dX5_isStance_22 ?_
      refine zr_aload_n K 3 dX5_isStance_23 rfl rfl ?_
      refine zr_iload_n K 0 dX5_isStance_24 rfl rfl ?_
      refine zr_iaload K (q0 := 2) 0 rfl rfl (vp_in_nI (by omega) (by omega)) dX5_isStance_25 ?_
      rw [nI_clamp (n := o * sd + k) (by omega), nI_clamp (n := k) (by omega)]
      refine zr_icmp_eq K 31 dX5_isStance_26 rfl (fun h => ?_) (fun h => ?_)
      · skip
        refine zr_iinc K (cst := 1) 0 _ dX5_isStance_31 (by decide) rfl (by decide) rfl ?_
        refine zr_goto K 2 dX5_isStance_34 rfl ?_
        rw [nI_1]
        refine ih (k + 1) (by omega) (fun j hjk => ?_)
        rcases Nat.lt_succ_iff_lt_or_eq.mp hjk with z | z
        · exact hj j z
        · rw [z]; exact h
      · skip
        refine zr_iconst K dX5_isStance_29 (by decide : _ = (0 : Int32)) ?_
        exact hret _ _ rfl ⟨rfl, Or.inr ⟨fun z => h (z k (by omega)), rfl⟩⟩ _ _ dX5_isStance_30
  exact lp sd 0 rfl (fun j hj => absurd hj (Nat.not_lt_zero j))
