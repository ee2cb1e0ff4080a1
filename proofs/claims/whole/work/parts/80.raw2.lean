/-! contracts of the raw judgement, calls -/
def zr_Mv (l : Launch) (y : MethodName) (wsY : List Cond) (rm : Room) (D : va_G) (tys : List (ClassId × FieldType)) (av : List Value) (X : State → Prop) (ws : va_W) (Qp : va_W → Prop) (mc ms : Nat) : Prop :=
  ∀ sz : Nat, Met l y wsY rm (va_Pc av (fun U => U.heap.size = sz ∧ va_P D vwCl ws U.heap ∧ va_K D vwCl tys U ∧ va_D (fun _ => True) ws ∧ X U)) (va_Qv Qp (fun ws' t => va_P D vwCl ws' t.heap ∧ va_D (va_A ws sz) ws') (va_A ws sz)) mc ms (va_A ws sz)
def zr_Mi (l : Launch) (y : MethodName) (wsY : List Cond) (rm : Room) (D : va_G) (tys : List (ClassId × FieldType)) (av : List Value) (X : State → Prop) (ws : va_W) (Qp : Int32 → va_W → Prop) (mc ms : Nat) : Prop :=
  ∀ sz : Nat, Met l y wsY rm (va_Pc av (fun U => U.heap.size = sz ∧ va_P D vwCl ws U.heap ∧ va_K D vwCl tys U ∧ va_D (fun _ => True) ws ∧ X U)) (va_Qi Qp (fun ws' t => va_P D vwCl ws' t.heap ∧ va_D (va_A ws sz) ws') (va_A ws sz)) mc ms (va_A ws sz)
def zr_X (X : State → Prop) : Prop := ∀ u U : State, U.heap = u.heap → u.vm.Alike U.vm → X u → X U
section ZR2
variable {p : Program} {l : Launch} {e : Env} {R : Room} {s : State} {m : MethodId} {args : Array Value} {below : List Frame} {meth : Method} {c : Code} {Q : State → Prop} {D : va_G} {tys : List (ClassId × FieldType)} {A : Nat → Prop} {cc : ByteArray} {nL nc ns : Nat} {own : String} {Ts : List Cond} {pc : Nat} {lv : List (Nat × Value)} {st : List Value} {ws : va_W}
theorem zr_Mv.of {y : MethodName} {wsY ws' : List Cond} {rm : Room} {av : List Value} {cc : ByteArray} {maxL mc ms : Nat} {X : State → Prop} {Qp : va_W → Prop} (hy : plainName y.cls = true) (hw : wsY = Cond.code y cc maxL none :: ws') (hlen : (lg_sl av).length ≤ maxL)
    (body : ∀ (p : Program) (e : Env) (s : State) (m : MethodId) (args : Array Value) (below : List Frame) (meth : Method) (c : Code) (A : Nat → Prop) (QW : State → Prop), zr_K p s m args c cc maxL y.cls wsY D tys A → X s → (∀ b : Nat, b < s.heap.size → (∀ (k : Nat) (q : Nat × va_E), ws[k]? = some q → ¬ q.1 = b) → ¬ A b) → meth.name = y.name → (∀ (ws2 : va_W), Qp ws2 → ∀ (pc : Nat) (lv : List (Nat × Value)), decode cc pc = .ok (.return_, 1) → zr_G p l e rm s m args below meth c QW D A maxL mc ms pc lv [] ws2) → zr_G p l e rm s m args below meth c QW D A maxL 0 0 0 (lv_args 0 av) [] ws) : zr_Mv l y wsY rm D tys av X ws Qp mc ms := by
  intro sz
  refine Met.ofW (cc := cc) (maxL := maxL) (ret := none) hy hw ?_
  intro p e s m args below meth c s₁ B hml hv
  obtain ⟨rfl, hsz, hP, hK, hD0, hX⟩ := hv
  have hlocks : meth.locks = false := B.notSynchronized
  have hts : ∀ w ∈ wsY, w.before av.toArray s = true := atoms_spec (ws := wsY) B.pre
  have hown : s.vm.findClass y.cls = some m.cls := findClass_of_methodNamed B.named
  have hin : meth.name = y.name := (name_of_methodNamed B.named B.method).1
  subst hsz
  have hD := hD0.self (sz := s.heap.size)
  rw [lg_entry_eq]
  have hl := lv_entry av (n := maxL) hlen
  exact body p e s m av.toArray below meth c (va_A ws s.heap.size) _ ⟨⟨B.exec, B.bytes, hml, hown, hts⟩, hK, fun q h => Or.inr h⟩ hX (fun b hb hne hA => by
    rcases hA with ⟨k, e, h⟩ | h
    · exact hne k _ h rfl
    · exact absurd hb (Nat.not_lt.mpr h)) hin (fun ws2 hq pc lv hd H locs ls hP hD hS hl => W.vret B.exec B.bytes B.returns (fun t ht hW => ⟨⟨ws2, rfl, hq, by (show va_P D vwCl _ t.heap); rw [ht]; exact hP, hD⟩, hS.F ht⟩) hS.2.2 hd hlocks) s.heap [] _ hP hD va_S.rf hl
theorem zr_Mi.of {y : MethodName} {wsY ws' : List Cond} {rm : Room} {av : List Value} {rt : FieldType} {cc : ByteArray} {maxL mc ms : Nat} {X : State → Prop} {Qp : Int32 → va_W → Prop} (hy : plainName y.cls = true) (hw : wsY = Cond.code y cc maxL (some rt) :: ws') (hlen : (lg_sl av).length ≤ maxL)
    (body : ∀ (p : Program) (e : Env) (s : State) (m : MethodId) (args : Array Value) (below : List Frame) (meth : Method) (c : Code) (A : Nat → Prop) (QW : State → Prop), zr_K p s m args c cc maxL y.cls wsY D tys A → X s → (∀ b : Nat, b < s.heap.size → (∀ (k : Nat) (q : Nat × va_E), ws[k]? = some q → ¬ q.1 = b) → ¬ A b) → (∀ (r : Int32) (ws2 : va_W), narrow rt (.int r) = .int r → Qp r ws2 → ∀ (pc : Nat) (lv : List (Nat × Value)), decode cc pc = .ok (.ireturn, 1) → zr_G p l e rm s m args below meth c QW D A maxL mc ms pc lv [.int r] ws2) → zr_G p l e rm s m args below meth c QW D A maxL 0 0 0 (lv_args 0 av) [] ws) : zr_Mi l y wsY rm D tys av X ws Qp mc ms := by
  intro sz
  refine Met.ofW (cc := cc) (maxL := maxL) (ret := some rt) hy hw ?_
  intro p e s m args below meth c s₁ B hml hv
  obtain ⟨rfl, hsz, hP, hK, hD0, hX⟩ := hv
  have hlocks : meth.locks = false := B.notSynchronized
  have hts : ∀ w ∈ wsY, w.before av.toArray s = true := atoms_spec (ws := wsY) B.pre
  have hown : s.vm.findClass y.cls = some m.cls := findClass_of_methodNamed B.named
  subst hsz
  have hD := hD0.self (sz := s.heap.size)
  rw [lg_entry_eq]
  have hl := lv_entry av (n := maxL) hlen
  exact body p e s m av.toArray below meth c (va_A ws s.heap.size) _ ⟨⟨B.exec, B.bytes, hml, hown, hts⟩, hK, fun q h => Or.inr h⟩ hX (fun b hb hne hA => by
    rcases hA with ⟨k, e, h⟩ | h
    · exact hne k _ h rfl
    · exact absurd hb (Nat.not_lt.mpr h)) (fun r ws2 hn hq pc lv hd H locs ls hP hD hS hl => W.zret (v := r) B.exec B.bytes B.returns hn (fun t ht hW => ⟨⟨r, ws2, rfl, hq, by (show va_P D vwCl _ t.heap); rw [ht]; exact hP, hD⟩, hS.F ht⟩) hS.2.2 hd hlocks) s.heap [] _ hP hD va_S.rf hl
set_option maxHeartbeats 4000000 in
theorem zr_callI (K : zr_K p s m args c cc nL own Ts D tys A) {y : MethodName} {wsY ws' : List Cond} {rm : Room} {bytes : ByteArray} {maxL n idx b mc ms : Nat} {tys2 : List (ClassId × FieldType)} {st0 : List Value} (As : List Value) {X : State → Prop} {wc wr : va_W} {Qp : va_W → Prop} (hM : zr_Mv l y wsY rm D tys2 (.ref b :: As) X wc Qp mc ms) (isC isR isT : List Nat) (hC : isC.map (fun i => ws[i]?) = wc.map some) (hC2 : isC.filterMap (fun i => ws[i]?) = wc) (hR0 : isR.map (fun i => ws[i]?) = wr.map some) (hnC : va_nd isC = true) (hnd : va_nd isR = true) (hdis : ∀ i ∈ isR, i ∉ isC) (hT : isT.filterMap (fun i => tys[i]?) = tys2) (hX1 : zr_X X) (hX2 : ∀ (H : Heap) (locs : List Loc) (U : State), va_S A s.heap H locs → U.heap = H → s.vm.Alike U.vm → X U) (hG : GoodIn Ts wsY) (hw : wsY = Cond.code y bytes maxL none :: ws') (hrm : rm.cells = mc ∧ rm.slots = ms) (hini : Cond.initialized y.cls ∈ Ts) (hlink : Cond.methodLink own idx y ∈ Ts) (hins : Cond.instanceMethod y ∈ Ts) (hy : y.name = "<init>") (hde : y.cls ≠ "java/lang/invoke/MethodHandle" ∧ y.cls ≠ "java/lang/invoke/VarHandle" ∧ (parseMethodDescriptor y.desc).map (fun d => d.parameters.length) = some n) (hRm : rm.frames + 1 ≤ R.frames ∧ 8 + (maxL + 11) + rm.locals ≤ R.locals) (hcnt : nc + mc ≤ R.cells ∧ ns + ms ≤ R.slots) (hn : As.length = n) (hst : st0 = As.reverse ++ .ref b :: st) (hcat : (st.map fun v => v.category).sum ≤ 8) (hd : decode cc pc = .ok (.invokespecial idx, 3)) (kk : ∀ u : va_W, Qp u → zr_G p l e R s m args below meth c Q D A nL (nc + mc) (ns + ms) (pc + 3) lv st (wr ++ u)) : zr_G p l e R s m args below meth c Q D A nL nc ns pc lv st0 ws := by
  intro H locs ls hP hD hS hl
  subst hst
  have hPc := hP.sub isC hC2
  have hDc := hD.sub isC hnC hC
  have hKc := K.2.1.sub isT hT
  have hFc := va_free (wc := wc) hD hS K.2.2 isC hC
  refine va_callv (va_runI (As := As) (rest := st) ⟨K.1.1, K.1.2.1, K.1.2.2.1, K.1.2.2.2.1, K.1.2.2.2.2⟩ (hM H.size) (cwI n K.1.2.2.2.2 hG hw hrm.1 hrm.2 (K.1.2.2.2.2 _ hini) (K.1.2.2.2.2 _ hlink) (K.1.2.2.2.2 _ hins) hy hde hRm) ⟨fun a U g mk q => ⟨q.1, q.2.1, q.2.2.1, va_K.moved (u := U) (U := U.calling g mk a) (Vm.Alike.refl U.vm) q.2.2.2.1, q.2.2.2.2.1, hX1 U (U.calling g mk a) rfl (Vm.Alike.refl U.vm) q.2.2.2.2.2⟩, fun U hU hW => ⟨rfl, by rw [hU], by rw [hU]; exact hPc, va_K.moved hW.alike hKc, hDc.weaken (fun _ _ _ _ => trivial), hX2 H locs U hS hU hW.alike⟩⟩ rfl hn hl.1 rfl (lv_room hcat) hd hcnt) hS (fun q _ h => hFc q h) hFc (fun u t H1 locs1 ht hvm hq hB hz1 hk1 hS1 => ?_)
  obtain ⟨hP1, hD1⟩ := hB
  rw [ht] at hP1
  obtain ⟨hP2, hD2⟩ := va_join (wr := wr) (w1 := u) hP hD isC isR hC hR0 hnd hdis hk1 hFc hP1 hD1
  exact kk u hq H1 locs1 ls hP2 hD2 hS1 hl
set_option maxHeartbeats 4000000 in
theorem zr_callVi (K : zr_K p s m args c cc nL own Ts D tys A) {y : MethodName} {wsY ws' : List Cond} {rm : Room} {bytes : ByteArray} {rt : FieldType} {maxL n idx b mc ms : Nat} {C : String} {tys2 : List (ClassId × FieldType)} {st0 : List Value} (As : List Value) {X : State → Prop} {wc wr : va_W} {Qp : Int32 → va_W → Prop} (hM : zr_Mi l y wsY rm D tys2 (.ref b :: As) X wc Qp mc ms) (isC isR isT : List Nat) (hC : isC.map (fun i => ws[i]?) = wc.map some) (hC2 : isC.filterMap (fun i => ws[i]?) = wc) (hR0 : isR.map (fun i => ws[i]?) = wr.map some) (hnC : va_nd isC = true) (hnd : va_nd isR = true) (hdis : ∀ i ∈ isR, i ∉ isC) (hT : isT.filterMap (fun i => tys[i]?) = tys2) (hX1 : zr_X X) (hX2 : ∀ (H : Heap) (locs : List Loc) (U : State), va_S A s.heap H locs → U.heap = H → s.vm.Alike U.vm → X U) (hG : GoodIn Ts (wsV own idx C y wsY)) (hw : wsY = Cond.code y bytes maxL (some rt) :: ws') (hrm : rm.cells = mc ∧ rm.slots = ms) (hde : y.cls = C ∧ y.cls ≠ "java/lang/invoke/MethodHandle" ∧ y.cls ≠ "java/lang/invoke/VarHandle" ∧ (parseMethodDescriptor y.desc).map (fun d => d.parameters.length) = some n) (hRm : rm.frames + 1 ≤ R.frames ∧ 8 + (maxL + 11) + rm.locals ≤ R.locals) (hcnt : nc + mc ≤ R.cells ∧ ns + ms ≤ R.slots) {q0 ci : Nat} {fs : List Value} {r0 : vw_C} (he : ws[q0]? = some (b, .inr (ci, fs))) (hc : vwCl[ci]? = some r0) (hCc : r0.1 = C) (hn : As.length = n) (hst : st0 = As.reverse ++ .ref b :: st) (hcat : (st.map fun v => v.category).sum ≤ 8) (hd : decode cc pc = .ok (.invokevirtual idx, 3)) (kk : ∀ (r : Int32) (u : va_W), Qp r u → zr_G p l e R s m args below meth c Q D A nL (nc + mc) (ns + ms) (pc + 3) lv (.int r :: st) (wr ++ u)) : zr_G p l e R s m args below meth c Q D A nL nc ns pc lv st0 ws := by
  intro H locs ls hP hD hS hl
  subst hst
  have hPc := hP.sub isC hC2
  have hDc := hD.sub isC hnC hC
  have hKc := K.2.1.sub isT hT
  have hFc := va_free (wc := wc) hD hS K.2.2 isC hC
  refine va_calli (va_runV (As := As) (rest := st) ⟨K.1.1, K.1.2.1, K.1.2.2.1, K.1.2.2.2.1, K.1.2.2.2.2⟩ (hM H.size) (cwV n K.1.2.2.2.2 hG hw hrm.1 hrm.2 hde hRm) ⟨fun a U g mk q => ⟨q.1, q.2.1, q.2.2.1, va_K.moved (u := U) (U := U.calling g mk a) (Vm.Alike.refl U.vm) q.2.2.2.1, q.2.2.2.2.1, hX1 U (U.calling g mk a) rfl (Vm.Alike.refl U.vm) q.2.2.2.2.2⟩, (by rw [← hCc]; exact va_recv K.2.1 hP hc he), fun U hU hW => ⟨rfl, by rw [hU], by rw [hU]; exact hPc, va_K.moved hW.alike hKc, hDc.weaken (fun _ _ _ _ => trivial), hX2 H locs U hS hU hW.alike⟩⟩ rfl hn hl.1 rfl (lv_room hcat) hd hcnt) hS (fun q _ h => hFc q h) hFc (fun r u t H1 locs1 ht hvm hq hB hz1 hk1 hS1 => ?_)
  obtain ⟨hP1, hD1⟩ := hB
  rw [ht] at hP1
  obtain ⟨hP2, hD2⟩ := va_join (wr := wr) (w1 := u) hP hD isC isR hC hR0 hnd hdis hk1 hFc hP1 hD1
  exact kk r u hq H1 locs1 ls hP2 hD2 hS1 hl
set_option maxHeartbeats 4000000 in
theorem zr_callVv (K : zr_K p s m args c cc nL own Ts D tys A) {y : MethodName} {wsY ws' : List Cond} {rm : Room} {bytes : ByteArray} {maxL n idx b mc ms : Nat} {C : String} {tys2 : List (ClassId × FieldType)} {st0 : List Value} (As : List Value) {X : State → Prop} {wc wr : va_W} {Qp : va_W → Prop} (hM : zr_Mv l y wsY rm D tys2 (.ref b :: As) X wc Qp mc ms) (isC isR isT : List Nat) (hC : isC.map (fun i => ws[i]?) = wc.map some) (hC2 : isC.filterMap (fun i => ws[i]?) = wc) (hR0 : isR.map (fun i => ws[i]?) = wr.map some) (hnC : va_nd isC = true) (hnd : va_nd isR = true) (hdis : ∀ i ∈ isR, i ∉ isC) (hT : isT.filterMap (fun i => tys[i]?) = tys2) (hX1 : zr_X X) (hX2 : ∀ (H : Heap) (locs : List Loc) (U : State), va_S A s.heap H locs → U.heap = H → s.vm.Alike U.vm → X U) (hG : GoodIn Ts (wsV own idx C y wsY)) (hw : wsY = Cond.code y bytes maxL none :: ws') (hrm : rm.cells = mc ∧ rm.slots = ms) (hde : y.cls = C ∧ y.cls ≠ "java/lang/invoke/MethodHandle" ∧ y.cls ≠ "java/lang/invoke/VarHandle" ∧ (parseMethodDescriptor y.desc).map (fun d => d.parameters.length) = some n) (hRm : rm.frames + 1 ≤ R.frames ∧ 8 + (maxL + 11) + rm.locals ≤ R.locals) (hcnt : nc + mc ≤ R.cells ∧ ns + ms ≤ R.slots) {q0 ci : Nat} {fs : List Value} {r0 : vw_C} (he : ws[q0]? = some (b, .inr (ci, fs))) (hc : vwCl[ci]? = some r0) (hCc : r0.1 = C) (hn : As.length = n) (hst : st0 = As.reverse ++ .ref b :: st) (hcat : (st.map fun v => v.category).sum ≤ 8) (hd : decode cc pc = .ok (.invokevirtual idx, 3)) (kk : ∀ (u : va_W), Qp u → zr_G p l e R s m args below meth c Q D A nL (nc + mc) (ns + ms) (pc + 3) lv st (wr ++ u)) : zr_G p l e R s m args below meth c Q D A nL nc ns pc lv st0 ws := by
  intro H locs ls hP hD hS hl
  subst hst
  have hPc := hP.sub isC hC2
  have hDc := hD.sub isC hnC hC
  have hKc := K.2.1.sub isT hT
  have hFc := va_free (wc := wc) hD hS K.2.2 isC hC
  refine va_callv (va_runV (As := As) (rest := st) ⟨K.1.1, K.1.2.1, K.1.2.2.1, K.1.2.2.2.1, K.1.2.2.2.2⟩ (hM H.size) (cwV n K.1.2.2.2.2 hG hw hrm.1 hrm.2 hde hRm) ⟨fun a U g mk q => ⟨q.1, q.2.1, q.2.2.1, va_K.moved (u := U) (U := U.calling g mk a) (Vm.Alike.refl U.vm) q.2.2.2.1, q.2.2.2.2.1, hX1 U (U.calling g mk a) rfl (Vm.Alike.refl U.vm) q.2.2.2.2.2⟩, (by rw [← hCc]; exact va_recv K.2.1 hP hc he), fun U hU hW => ⟨rfl, by rw [hU], by rw [hU]; exact hPc, va_K.moved hW.alike hKc, hDc.weaken (fun _ _ _ _ => trivial), hX2 H locs U hS hU hW.alike⟩⟩ rfl hn hl.1 rfl (lv_room hcat) hd hcnt) hS (fun q _ h => hFc q h) hFc (fun u t H1 locs1 ht hvm hq hB hz1 hk1 hS1 => ?_)
  obtain ⟨hP1, hD1⟩ := hB
  rw [ht] at hP1
  obtain ⟨hP2, hD2⟩ := va_join (wr := wr) (w1 := u) hP hD isC isR hC hR0 hnd hdis hk1 hFc hP1 hD1
  exact kk u hq H1 locs1 ls hP2 hD2 hS1 hl
set_option maxHeartbeats 4000000 in
theorem zr_fill (K : zr_K p s m args c cc nL own Ts D tys A) {idx q0 n a : Nat} {cA : ClassId} {f : Nat → Int32} {x : Int32} (t0 : Nat) (ha : ws[q0]? = some (a, .inl (cA, n, .inl f))) (ht : tys[t0]? = some (cA, .int)) (hnn : n < 2 ^ 31) (hG : GoodIn Ts (va_wsS own idx yJ7_fill_53178 wsJ7_fill_53178)) (hR1 : 1 ≤ R.frames) (hR2 : 23 ≤ R.locals) (hcnt : nc ≤ R.cells ∧ ns ≤ R.slots) (hcat : (st.map fun v => v.category).sum ≤ 8) (hd : decode cc pc = .ok (.invokestatic idx, 3)) (kk : ∀ g : Nat → Int32, (∀ k, k < n → g k = x) → zr_G p l e R s m args below meth c Q D A nL nc ns (pc + 3) lv st (ws.set q0 (a, .inl (cA, n, .inl g)))) : zr_G p l e R s m args below meth c Q D A nL nc ns pc lv (.int x :: .ref a :: st) ws := by
  intro H locs ls hP hD hS hl
  have hPc : va_P D vwCl (wF (fun _ => a) (fun _ => cA) n (zF f)) H := hP.sub [q0] (by simp [ha, wF, zF])
  have hKc : va_K D vwCl [(cA, .int)] s := K.2.1.sub [t0] (by simp [ht])
  have hF : ∀ q, va_A (wF (fun _ => a) (fun _ => cA) n (zF f)) H.size q → A q := fun q h => by
    rcases h with ⟨k, e, h⟩ | h
    · have : q = a := by
        match k, h with
        | 0, h => simp [wF] at h; exact h.1.symm
        | k + 1, h => simp [wF] at h
      rw [this]; exact hD.2 q0 _ ha
    · exact K.2.2 q (Nat.le_trans hS.1 h)
  have hDc : va_D (fun _ : Nat => True) (wF (fun _ => a) (fun _ => cA) n (zF f)) := by
    refine ⟨fun i j p q hi hj _ => ?_, fun _ _ _ => trivial⟩
    match i, j, hi, hj with
    | 0, 0, _, _ => rfl
    | i + 1, _, hi, _ => simp [wF] at hi
    | 0, j + 1, _, hj => simp [wF] at hj
  refine va_callv (va_runS (As := [.ref a, .int x]) (rest := st) ⟨K.1.1, K.1.2.1, K.1.2.2.1, K.1.2.2.2.1, K.1.2.2.2.2⟩ (zz_fillM l D a cA n f x hnn H.size) (va_cwS 2 K.1.2.2.2.2 hG rfl rfl rfl (by decide +kernel) ⟨hR1, hR2⟩) ⟨fun a U g mk q => ⟨q.1, q.2.1, q.2.2.1, va_K.moved (u := U) (U := U.calling g mk a) (Vm.Alike.refl U.vm) q.2.2.2.1, q.2.2.2.2.1, fun w hw0 => absurd hw0 List.not_mem_nil⟩, fun U hU hW => ⟨rfl, by rw [hU], by rw [hU]; exact hPc, va_K.moved hW.alike hKc, hDc, fun w hw0 => absurd hw0 List.not_mem_nil⟩⟩ rfl rfl hl.1 rfl (lv_room hcat) hd hcnt) hS (fun q _ h => hF q h) hF (fun u t H1 locs1 htt hvm hw hB hz1 hk1 hS1 => ?_)
  have hB1 : va_P D vwCl (wF (fun _ => a) (fun _ => cA) n u) H1 := by rw [← htt]; exact hB
  refine kk (u.2.1 0) hw H1 locs1 ls ?_ (hD.set ha) hS1 hl
  intro k q hq
  by_cases hk : k = q0
  · subst hk
    have hlen := (List.getElem?_eq_some_iff.mp ha).1
    rw [List.getElem?_set_self hlen] at hq
    have hq := Option.some.inj hq
    rw [← hq]
    exact hB1 0 _ rfl
  · rw [List.getElem?_set_ne (fun h => hk h.symm)] at hq
    have hat := hP k q hq
    refine hat.kept (hk1 q.1 hat.lt (fun h => ?_))
    rcases h with ⟨i, e, h⟩ | h
    · have h2 : q.1 = a := by
        match i, h with
        | 0, h => simp [wF] at h; exact h.1.symm
        | i + 1, h => simp [wF] at h
      exact hk (hD.1 k q0 q _ hq ha h2)
    · exact absurd hat.lt (Nat.not_lt.mpr h)
end ZR2
