def wF (ad : Nat → Nat) (cy : Nat → ClassId) (n : Nat) (σ : zz_St) : va_W := [(ad 0, .inl (cy 0, n, .inl (σ.2.1 0)))]
theorem wF_ad (ad : Nat → Nat) (cy : Nat → ClassId) (n : Nat) : zz_ad (wF ad cy n) := fun _ _ => rfl
theorem wF_at (ad : Nat → Nat) (cy : Nat → ClassId) (n : Nat) (σ : zz_St) : (wF ad cy n σ)[0]? = some (ad 0, .inl (cy 0, n, .inl (σ.2.1 0))) := rfl
theorem wF_set (ad : Nat → Nat) (cy : Nat → ClassId) (n : Nat) (σ : zz_St) (f : Nat → Int32) : (wF ad cy n σ).set 0 (ad 0, .inl (cy 0, n, .inl f)) = wF ad cy n (zz_A σ 0 f) := rfl
theorem zcFi_0 : Int32.ofInt (0) = (0 : Int32) := by decide
theorem zcFi_1 : Int32.ofInt (1) = (1 : Int32) := by decide
def zqJ7_fill_53178_5 (v1 : Int32) (v2 : Int32) (v3 : Int32) (n : Nat) (σ : zz_St) (Qp : zz_St → Prop) : Prop :=
 ∃ (I5 : Int32 → zz_St → Prop) (M5 : Int32 → zz_St → Nat), I5 v2 σ ∧ ∀ (v2 : Int32) (σ : zz_St), I5 v2 σ →
((v3 ≤ v2) →
  Qp σ) ∧ (¬ (v3 ≤ v2) →
  vp_in v2 n ∧
  ∀ g5 : zz_St, g5 = zz_A σ 0 (upd ((σ).2.1 0) v2.toNatClampNeg v1) →
  I5 (v2 + (1 : Int32)) g5 ∧ M5 (v2 + (1 : Int32)) g5 < M5 v2 σ)
def zqJ7_fill_53178 (v1 : Int32) (n : Nat) (σ : zz_St) (Qp : zz_St → Prop) : Prop :=
∀ x6 : Int32, x6 = (nI n) →
zqJ7_fill_53178_5 v1 (0 : Int32) x6 n σ Qp
abbrev zrmJ7_fill_53178 : Room := { frames := 0, cells := 0, slots := 0, locals := 0 }
set_option maxHeartbeats 4000000 in
set_option maxRecDepth 100000 in
theorem zuJ7_fill_53178_5 {p : Program} {l : Launch} {e : Env} {s : State} {m : MethodId} {args : Array Value} {below : List Frame} {meth : Method} {c : Code} {Q : State → Prop} {D : va_G} {A : Nat → Prop} {ad : Nat → Nat} {cy : Nat → ClassId} {v1 : Int32} {v2 : Int32} {v3 : Int32} {n : Nat} {σ : zz_St} (K : zz_K p s m args c cJ7_fill_53178 4 RJ7 wsJ7_fill_53178 D [(cy 0, FieldType.int)] A (wF ad cy n) []) {Qp : zz_St → Prop} (hret : ∀ (σ2 : zz_St), Qp σ2 → ∀ (pc : Nat) (lv : List (Nat × Value)), decode cJ7_fill_53178 pc = .ok (.return_, 1) → zz_G p l e zrmJ7_fill_53178 s m args below meth c Q D A (wF ad cy n) 4 pc lv [] σ2) (h : zqJ7_fill_53178_5 v1 v2 v3 n σ Qp) : zz_G p l e zrmJ7_fill_53178 s m args below meth c Q D A (wF ad cy n) 4 5 [(0, .ref (ad 0)), (1, .int v1), (2, .int v2), (3, .int v3)] [] σ := by
  unfold zqJ7_fill_53178_5 at h
  obtain ⟨I5, M5, h0, hs⟩ := h
  have key : ∀ (nq : Nat) (v2 : Int32) (σ : zz_St), M5 v2 σ < nq → I5 v2 σ → zz_G p l e zrmJ7_fill_53178 s m args below meth c Q D A (wF ad cy n) 4 5 [(0, .ref (ad 0)), (1, .int v1), (2, .int v2), (3, .int v3)] [] σ := by
    intro nq
    induction nq with
    | zero => intro v2 σ hlt; exact absurd hlt (Nat.not_lt_zero _)
    | succ nq ih =>
      intro v2 σ hlt hI
      have h := hs v2 σ hI
      have hB5 : ∀ (v2' : Int32) (σ' : zz_St), (fun v2' σ' => I5 v2' σ' ∧ M5 v2' σ' < M5 v2 σ) v2' σ' → zz_G p l e zrmJ7_fill_53178 s m args below meth c Q D A (wF ad cy n) 4 5 [(0, .ref (ad 0)), (1, .int v1), (2, .int v2'), (3, .int v3)] [] σ' := fun v2' σ' hz => ih v2' σ' (Nat.lt_of_lt_of_le hz.2 (Nat.le_of_lt_succ hlt)) hz.1
      refine zz_iload_n K 2 dJ7_fill_53178_5 rfl rfl ?_
      refine zz_iload_n K 3 dJ7_fill_53178_6 rfl rfl ?_
      refine zz_icmp_ge K 20 dJ7_fill_53178_7 rfl (fun c4 => ?_) (fun c4 => ?_)
      · have h := (And.left h) c4
        exact hret _ h _ _ dJ7_fill_53178_20
      · have h := (And.right h) c4
        refine zz_aload_n K 0 dJ7_fill_53178_10 rfl rfl ?_
        refine zz_iload_n K 2 dJ7_fill_53178_11 rfl rfl ?_
        refine zz_iload_n K 1 dJ7_fill_53178_12 rfl rfl ?_
        obtain ⟨hin, h⟩ := h
        refine zz_iastore K 0 (σ2 := zz_A σ 0 (upd ((σ).2.1 0) v2.toNatClampNeg v1)) (wF_at ad cy n σ) (wF_set ad cy n σ _) rfl hin dJ7_fill_53178_13 ?_
        refine zz_nms (fun g5 eg5 => ?_)
        have h := h g5 eg5
        refine zz_iinc K 2 [(2, .int (v2 + (1 : Int32))), (0, .ref (ad 0)), (1, .int v1), (3, .int v3)] dJ7_fill_53178_14 zcFi_1 rfl (by decide) rfl ?_
        refine zz_goto K 5 dJ7_fill_53178_17 rfl ?_
        refine zz_sub [1, 2, 0, 3] [(0, .ref (ad 0)), (1, .int v1), (2, .int (v2 + (1 : Int32))), (3, .int v3)] rfl ?_
        exact hB5 (v2 + (1 : Int32)) g5 h
  exact key _ v2 σ (Nat.lt_succ_self _) h0
set_option maxHeartbeats 4000000 in
set_option maxRecDepth 100000 in
theorem zuJ7_fill_53178_0 {p : Program} {l : Launch} {e : Env} {s : State} {m : MethodId} {args : Array Value} {below : List Frame} {meth : Method} {c : Code} {Q : State → Prop} {D : va_G} {A : Nat → Prop} {ad : Nat → Nat} {cy : Nat → ClassId} {v1 : Int32} {n : Nat} {σ : zz_St} (K : zz_K p s m args c cJ7_fill_53178 4 RJ7 wsJ7_fill_53178 D [(cy 0, FieldType.int)] A (wF ad cy n) []) {Qp : zz_St → Prop} (hret : ∀ (σ2 : zz_St), Qp σ2 → ∀ (pc : Nat) (lv : List (Nat × Value)), decode cJ7_fill_53178 pc = .ok (.return_, 1) → zz_G p l e zrmJ7_fill_53178 s m args below meth c Q D A (wF ad cy n) 4 pc lv [] σ2) (h : zqJ7_fill_53178 v1 n σ Qp) : zz_G p l e zrmJ7_fill_53178 s m args below meth c Q D A (wF ad cy n) 4 0 [(0, .ref (ad 0)), (1, .int v1)] [] σ := by
  unfold zqJ7_fill_53178 at h
  refine zz_iconst K dJ7_fill_53178_0 zcFi_0 ?_
  refine zz_istore_n K [(2, .int (0 : Int32)), (0, .ref (ad 0)), (1, .int v1)] dJ7_fill_53178_1 rfl (by decide) rfl ?_
  refine zz_aload_n K 1 dJ7_fill_53178_2 rfl rfl ?_
  refine zz_alen K 0 (wF_at ad cy n σ) rfl (v := nI n) rfl dJ7_fill_53178_3 ?_
  refine zz_nmi (fun x6 ex6 => ?_)
  have h := h x6 ex6
  refine zz_istore_n K [(3, .int x6), (2, .int (0 : Int32)), (0, .ref (ad 0)), (1, .int v1)] dJ7_fill_53178_4 rfl (by decide) rfl ?_
  refine zz_sub [2, 3, 1, 0] [(0, .ref (ad 0)), (1, .int v1), (2, .int (0 : Int32)), (3, .int x6)] rfl ?_
  exact zuJ7_fill_53178_5 K hret h
set_option maxRecDepth 100000 in
theorem zcJ7_fill_53178 (l : Launch) (D : va_G) (ad : Nat → Nat) (cy : Nat → ClassId) (v1 : Int32) (n : Nat) (σ : zz_St) (Qp : zz_St → Prop) (h : zqJ7_fill_53178 v1 n σ Qp) : zz_Mv l yJ7_fill_53178 wsJ7_fill_53178 zrmJ7_fill_53178 D [(cy 0, FieldType.int)] (wF ad cy n) [] [.ref (ad 0), .int v1] σ Qp :=
  zz_Mv.of zz_nw_nil (wF_ad ad cy n) (by decide +kernel) rfl ⟨rfl, rfl⟩ (Nat.le_of_ble_eq_true rfl) (fun p e s m args below meth c A QW K hret => zuJ7_fill_53178_0 K  hret h)
def zF (f : Nat → Int32) : zz_St := (fun _ => 0, fun _ => f, fun _ _ => 0)
theorem zz_fillM (l : Launch) (D : va_G) (a : Nat) (cA : ClassId) (n : Nat) (f : Nat → Int32) (x : Int32) (hn : n < 2 ^ 31) : zz_Mv l yJ7_fill_53178 wsJ7_fill_53178 zrmJ7_fill_53178 D [(cA, .int)] (wF (fun _ => a) (fun _ => cA) n) [] [.ref a, .int x] (zF f) (fun σ2 => ∀ k, k < n → σ2.2.1 0 k = x) := by
  refine zcJ7_fill_53178 l D (fun _ => a) (fun _ => cA) x n (zF f) _ ?_
  unfold zqJ7_fill_53178 zqJ7_fill_53178_5
  rintro x6 rfl
  refine ⟨fun v2 σ => ∃ i, i ≤ n ∧ v2 = nI i ∧ ∀ k, k < i → σ.2.1 0 k = x, fun v2 _ => n - v2.toNatClampNeg, ⟨0, Nat.zero_le _, nI_0.symm, fun k h => absurd h (Nat.not_lt_zero k)⟩, ?_⟩
  rintro v2 σ ⟨i, hi, rfl, hk⟩
  refine ⟨fun c => ?_, fun c => ?_⟩
  · have hin : n ≤ i := by
      rcases Nat.lt_or_ge i n with q | q
      · exact absurd c (nI_ge q hn)
      · exact q
    intro k h
    exact hk k (by omega)
  · have hlt : i < n := by
      rcases Nat.lt_or_ge i n with q | q
      · exact q
      · exact absurd (nI_le q (by omega)) c
    refine ⟨vp_in_nI hlt hn, ?_⟩
    rintro σ1 rfl
    have h1 : (nI i).toNatClampNeg = i := nI_clamp (by omega)
    refine ⟨⟨i + 1, hlt, nI_1 i, fun k h => ?_⟩, ?_⟩
    · simp only [zz_A2, if_pos, h1, upd]
      rcases Nat.lt_succ_iff_lt_or_eq.mp h with q | q
      · rw [if_neg (by omega)]; exact hk k q
      · rw [if_pos q]
    · show n - (nI i + 1).toNatClampNeg < n - (nI i).toNatClampNeg
      rw [nI_1, nI_clamp (n := i + 1) (by omega), h1]; omega
section ZFill
variable {p : Program} {l : Launch} {e : Env} {R : Room} {s : State} {m : MethodId} {args : Array Value} {below : List Frame} {meth : Method} {c : Code} {Q : State → Prop} {D : va_G} {tys : List (ClassId × FieldType)} {A : Nat → Prop} {wf : zz_St → va_W} {cc : ByteArray} {nL : Nat} {own : String} {Ts nw : List Cond} {pc : Nat} {lv : List (Nat × Value)} {st : List Value} {σ : zz_St}
set_option maxHeartbeats 4000000 in
theorem zz_fill (K : zz_K p s m args c cc nL own Ts D tys A wf nw) {idx q0 n a : Nat} {cA : ClassId} {f : Nat → Int32} {x : Int32} (t0 : Nat) (S : (Nat → Int32) → zz_St) (ha : (wf σ)[q0]? = some (a, .inl (cA, n, .inl f))) (hset : ∀ g : Nat → Int32, (wf σ).set q0 (a, .inl (cA, n, .inl g)) = wf (S g)) (ht : tys[t0]? = some (cA, .int)) (hnn : n < 2 ^ 31) (hG : GoodIn Ts (va_wsS own idx yJ7_fill_53178 wsJ7_fill_53178)) (hR1 : 1 ≤ R.frames) (hR2 : 23 ≤ R.locals) (hcat : (st.map fun v => v.category).sum ≤ 8) (hd : decode cc pc = .ok (.invokestatic idx, 3)) (kk : ∀ g : Nat → Int32, (∀ k, k < n → g k = x) → zz_G p l e R s m args below meth c Q D A wf nL (pc + 3) lv st (S g)) : zz_G p l e R s m args below meth c Q D A wf nL pc lv (.int x :: .ref a :: st) σ := by
  intro H locs ls hP hS hl
  have hPc : va_P D vwCl (wF (fun _ => a) (fun _ => cA) n (zF f)) H := hP.sub [q0] (by simp [ha, wF, zF])
  have hKc : va_K D vwCl [(cA, .int)] s := K.2.1.sub [t0] (by simp [ht])
  have hF : ∀ q, va_A (wF (fun _ => a) (fun _ => cA) n (zF f)) H.size q → A q := fun q h => by
    rcases h with ⟨k, e, h⟩ | h
    · have : q = a := by
        match k, h with
        | 0, h => simp [wF] at h; exact h.1.symm
        | k + 1, h => simp [wF] at h
      rw [this]; exact (K.2.2.2.1 σ).2 q0 _ ha
    · exact K.2.2.1 q (Nat.le_trans hS.1 h)
  have hDc : va_D (fun _ : Nat => True) (wF (fun _ => a) (fun _ => cA) n (zF f)) := by
    refine ⟨fun i j p q hi hj _ => ?_, fun _ _ _ => trivial⟩
    match i, j, hi, hj with
    | 0, 0, _, _ => rfl
    | i + 1, _, hi, _ => simp [wF] at hi
    | 0, j + 1, _, hj => simp [wF] at hj
  refine va_callv (va_runS (As := [.ref a, .int x]) (rest := st) ⟨K.1.1, K.1.2.1, K.1.2.2.1, K.1.2.2.2.1, K.1.2.2.2.2⟩ (zz_fillM l D a cA n f x hnn H.size) (va_cwS 2 K.1.2.2.2.2 hG rfl rfl rfl (by decide +kernel) ⟨hR1, hR2⟩) ⟨fun a U g mk q => ⟨q.1, q.2.1, q.2.2.1, va_K.moved (u := U) (U := U.calling g mk a) (Vm.Alike.refl U.vm) q.2.2.2.1, q.2.2.2.2.1, fun w hw0 => absurd hw0 List.not_mem_nil⟩, fun U hU hW => ⟨rfl, by rw [hU], by rw [hU]; exact hPc, va_K.moved hW.alike hKc, hDc, fun w hw0 => absurd hw0 List.not_mem_nil⟩⟩ rfl rfl hl.1 rfl (lv_room hcat) hd ⟨Nat.zero_le _, Nat.zero_le _⟩) hS (fun q _ h => hF q h) hF (fun u t H1 locs1 htt hvm hw hB hz1 hk1 hS1 => ?_)
  have hB1 : va_P D vwCl (wF (fun _ => a) (fun _ => cA) n u) H1 := by rw [← htt]; exact hB
  refine kk (u.2.1 0) hw H1 locs1 ls ?_ hS1 hl
  rw [← hset]
  intro k q hq
  by_cases hk : k = q0
  · subst hk
    have hlen := (List.getElem?_eq_some_iff.mp ha).1
    rw [List.getElem?_set_self hlen] at hq
    have hq := Option.some.inj hq
    rw [← hq]
    exact hB1 0 _ rfl
  · rw [List.getElem?_set_ne (fun h => hk h.symm)] at hq
    have hat := hP k q hq
    refine hat.kept (hk1 q.1 hat.lt (fun h => ?_))
    rcases h with ⟨i, e, h⟩ | h
    · have h2 : q.1 = a := by
        match i, h with
        | 0, h => simp [wF] at h; exact h.1.symm
        | i + 1, h => simp [wF] at h
      exact hk ((K.2.2.2.1 σ).1 k q0 q _ hq ha h2)
    · exact absurd hat.lt (Nat.not_lt.mpr h)
end ZFill
