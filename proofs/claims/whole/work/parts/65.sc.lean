/-! call: reached; even and odd never meet: the reference (the class: 72a) -/
theorem zb_or0 (p : Nat) (hp : p < 2) : (0 : Int32) ||| nI (1 + p) = nI (1 + p) ∧ ¬ nI (1 + p) = 0 ∧ nI (1 + p) ||| nI (1 + p) = nI (1 + p) ∧ nI (1 + p) ||| 0 = nI (1 + p) ∧ ¬ nI (1 + p) = 3 := by
  rcases (by omega : p = 0 ∨ p = 1) with rfl | rfl <;> decide
theorem zb_tr (p : Nat) (hp : p < 2) : ((nI (1 + p) &&& 1) <<< ((1 : Int32) &&& 31)) ||| (nI (1 + p) >>> ((1 : Int32) &&& 31)) = nI (1 + (1 - p)) ∧ (((0 : Int32) &&& 1) <<< ((1 : Int32) &&& 31)) ||| ((0 : Int32) >>> ((1 : Int32) &&& 31)) = 0 := by
  rcases (by omega : p = 0 ∨ p = 1) with rfl | rfl <;> decide
section SC
variable {σ τ : zz_St} {r c k x0 : Nat} {tl pr : Nat → Int32}
/-- the reference's parities: none, or the state's own -/
def ME (k x0 : Nat) (l : List (Nat × Nat × Nat)) (σ : zz_St) : Prop := ∀ (i : Nat) (e : Nat × Nat × Nat), l[i]? = some e → σ.2.1 30 i = 0 ∨ σ.2.1 30 i = nI (1 + zs_pp k x0 e.1)
def mez (l : List (Nat × Nat × Nat)) (σ : zz_St) : Nat := zcnt (fun i => decide (σ.2.1 30 i = 0)) l.length
theorem e8_isEven {Q : Int32 → zz_St → Prop} {te : Bool} {l : List (Nat × Nat × Nat)} (hL : ML σ te l) (hl : l.length ≤ 864) (hl0 : l[0]? = some (x0, 0, 0)) (hVl : ∀ (i : Nat) (e : Nat × Nat × Nat), l[i]? = some e → zs_V r c k e.1) (hN : MN σ (zs_st r c k tl pr) l (4 * l.length)) (h : ∀ σ2, zx σ σ2 [] [30] → Q 0 σ2) : zq8_isEven σ Q := by
  unfold zq8_isEven zq8_isEven_2 zq8_isEven_24
  have hlen0 : 0 < l.length := (List.getElem?_eq_some_iff.mp hl0).1
  refine ⟨fun v σ2 => ∃ i, i ≤ l.length ∧ v = nI i ∧ (zx σ σ2 [] [30] ∧ ∀ j, j < i → σ2.2.1 30 j = if j = 0 then 1 else 0), fun v _ => l.length - v.toNatClampNeg, ⟨0, Nat.zero_le _, rfl, zx.rf, fun j hj => absurd hj (Nat.not_lt_zero j)⟩, ?_⟩
  rintro v σ2 ⟨i, hi, rfl, x2, hp⟩
  rw [x2.1 27 (by decide), hL.1]
  refine pk_le l.length i (fun q => ?_) (fun q => ?_)
  rotate_left
  · have ci : (nI i).toNatClampNeg = i := nI_clamp (by omega)
    have e0 : nI i = 0 ↔ i = 0 := nI_eq (b := 0) (by omega) (by decide)
    rw [e0]
    have leaf : ∀ (v : Int32) (g14 : zz_St), v = (if i = 0 then 1 else 0) → g14 = zz_A σ2 30 (upd (σ2.2.1 30) (nI i).toNatClampNeg v) → (∃ j, j ≤ l.length ∧ nI i + 1 = nI j ∧ (zx σ g14 [] [30] ∧ ∀ t, t < j → g14.2.1 30 t = if t = 0 then 1 else 0)) ∧ l.length - (nI i + 1).toNatClampNeg < l.length - (nI i).toNatClampNeg := by
      intro v g14 ev h14
      rw [ci] at h14
      refine zl_leaf (J := fun j g14 => zx σ g14 [] [30] ∧ ∀ t, t < j → g14.2.1 30 t = if t = 0 then 1 else 0) q (by omega) ⟨?_, fun t ht => ?_⟩
      · rw [h14]; exact x2.tr (zx.A 30 _ (by decide))
      · rw [h14, zz_A2, if_pos rfl]
        rcases Nat.lt_succ_iff_lt_or_eq.mp ht with y | y
        · rw [pk_un (by omega)]; exact hp t y
        · rw [y, pk_us, ev]
    exact ⟨fun y => ⟨vp_in_nI (by omega) (by decide), fun g14 h14 => leaf 0 g14 (by rw [if_neg y]) h14⟩, fun y => ⟨vp_in_nI (by omega) (by decide), fun g14 h14 => leaf 1 g14 (by rw [if_pos y]) h14⟩⟩
  have hil : i = l.length := by omega
  subst hil
  have hME : ME k x0 l σ2 := by
    intro j e he
    have hj := (List.getElem?_eq_some_iff.mp he).1
    rw [hp j hj]
    by_cases y : j = 0
    · rw [if_pos y]
      rw [y, hl0] at he
      cases he
      exact Or.inr (by rw [zs_pp_0]; rfl)
    · rw [if_neg y]; exact Or.inl rfl
  unfold zq8_isEven_33
  refine ⟨fun v σ3 => (v = 0 ∨ v = 1) ∧ zx σ σ3 [] [30] ∧ ME k x0 l σ3, fun v σ3 => mez l σ3 + (if v = 0 then 0 else 1), ⟨Or.inr rfl, x2, hME⟩, ?_⟩
  clear hp x2 hME q
  rintro v σ3 ⟨hv, x3, hM⟩
  refine ⟨fun y => ?_, fun y => ?_⟩
  · unfold zq8_isEven_145
    refine ⟨fun v => ∃ i, i ≤ l.length ∧ v = nI i, fun v => l.length - v.toNatClampNeg, ⟨0, Nat.zero_le _, rfl⟩, ?_⟩
    rintro v ⟨i, hi, rfl⟩
    rw [x3.1 27 (by decide), hL.1]
    refine pk_le l.length i (fun _ => h σ3 x3) (fun q => ⟨vp_in_nI (by omega) (by decide), ?_⟩)
    have he : l[i]? = some l[i] := List.getElem?_eq_getElem q
    generalize l[i] = e at he
    have ci : (nI i).toNatClampNeg = i := nI_clamp (by omega)
    have n3 : ¬ σ3.2.1 30 i = 3 := by
      rcases hM i e he with u | u
      · rw [u]; decide
      · rw [u]; exact (zb_or0 _ (zs_pp_lt _ _ _)).2.2.2.2
    rw [ci]
    exact zNf n3 (zl_leaf0 (J := fun _ => True) q (by omega) trivial |> fun f => ⟨by obtain ⟨⟨j, a, b, _⟩, _⟩ := f; exact ⟨j, a, b⟩, f.2⟩)
  · have v1 : v = 1 := hv.resolve_left y
    subst v1
    unfold zq8_isEven_41
    refine ⟨fun v1 v2 σ4 => ∃ i, i ≤ l.length ∧ v2 = nI i ∧ (zx σ σ4 [] [30] ∧ ME k x0 l σ4 ∧ ((v1 = 0 ∧ mez l σ4 = mez l σ3) ∨ (v1 = 1 ∧ mez l σ4 < mez l σ3))), fun _ v2 _ => l.length - v2.toNatClampNeg, ⟨0, Nat.zero_le _, rfl, x3, hM, Or.inl ⟨rfl, rfl⟩⟩, ?_⟩
    rintro v1 v2 σ4 ⟨i, hi, rfl, x4, hM4, hz⟩
    rw [x4.1 27 (by decide), hL.1]
    refine pk_le l.length i (fun q => ?_) (fun q => ⟨vp_in_nI (by omega) (by decide), vp_in_nI (by omega) (by decide), ?_⟩)
    · refine ⟨⟨hz.elim (fun u => Or.inl u.1) (fun u => Or.inr u.1), x4, hM4⟩, ?_⟩
      show mez l σ4 + (if v1 = 0 then 0 else 1) < mez l σ3 + (if (1 : Int32) = 0 then 0 else 1)
      rw [if_neg n10]
      rcases hz with ⟨u1, u2⟩ | ⟨u1, u2⟩
      · rw [if_pos u1]; omega
      · rw [u1, if_neg n10]; omega
    · have he : l[i]? = some l[i] := List.getElem?_eq_getElem q
      generalize l[i] = e at he
      have hVe := hVl i e he
      have ci : (nI i).toNatClampNeg = i := nI_clamp (by omega)
      rw [ci]
      intro x21 e21
      have hturn : x21 = 0 ∨ x21 = nI (1 + (1 - zs_pp k x0 e.1)) := by
        rcases hM4 i e he with u | u
        · rw [u] at e21; rw [e21]; exact Or.inl (zb_tr 0 (by decide)).2
        · rw [u] at e21; rw [e21]; exact Or.inr (zb_tr _ (zs_pp_lt _ _ _)).1
      unfold zq8_isEven_72 zq8_isEven_128
      refine ⟨fun v1 v4 σ5 => ∃ w, w ≤ 4 ∧ v4 = nI w ∧ (zx σ σ5 [] [30] ∧ ME k x0 l σ5 ∧ ((v1 = 0 ∧ mez l σ5 = mez l σ3) ∨ (v1 = 1 ∧ mez l σ5 < mez l σ3))), fun _ v4 _ => 4 - v4.toNatClampNeg, ⟨0, Nat.zero_le _, rfl, x4, hM4, hz⟩, ?_⟩
      clear hz e21
      rintro v1 v4 σ5 ⟨w, hw4, rfl, x5, hM5, hz⟩
      refine ⟨fun q2 => ?_, fun q2 => ?_⟩
      · exact zl_leaf (J := fun _ σ4 => zx σ σ4 [] [30] ∧ ME k x0 l σ4 ∧ ((v1 = 0 ∧ mez l σ4 = mez l σ3) ∨ (v1 = 1 ∧ mez l σ4 < mez l σ3))) q (by omega) ⟨x5, hM5, hz⟩
      have hw := zl_go (N := 4) hw4 (by decide) q2
      have leaf : ∀ (v1' : Int32) (σ6 : zz_St), zx σ σ6 [] [30] → ME k x0 l σ6 → ((v1' = 0 ∧ mez l σ6 = mez l σ3) ∨ (v1' = 1 ∧ mez l σ6 < mez l σ3)) → (∃ w', w' ≤ 4 ∧ nI w + 1 = nI w' ∧ (zx σ σ6 [] [30] ∧ ME k x0 l σ6 ∧ ((v1' = 0 ∧ mez l σ6 = mez l σ3) ∨ (v1' = 1 ∧ mez l σ6 < mez l σ3)))) ∧ 4 - (nI w + 1).toNatClampNeg < 4 - (nI w).toNatClampNeg := fun v1' σ6 a b c' => zl_leaf (J := fun _ σ6 => zx σ σ6 [] [30] ∧ ME k x0 l σ6 ∧ ((v1' = 0 ∧ mez l σ6 = mez l σ3) ∨ (v1' = 1 ∧ mez l σ6 < mez l σ3))) hw (by decide) ⟨a, b, c'⟩
      have e4 : (4 : Int32) * nI i + nI w = nI (4 * i + w) := zn_ma 4 i w
      have c4 : (nI (4 * i + w)).toNatClampNeg = 4 * i + w := nI_clamp (by omega)
      rw [e4, c4, x5.2.1 26 (by decide)]
      refine ⟨vp_in_nI (by omega) (by decide), fun x16 e16 => ?_⟩
      have hdiv : (4 * i + w) / 4 = i := by omega
      have hmod : (4 * i + w) % 4 = w := by omega
      have hnx := hN (4 * i + w) (by omega) e (by rw [hdiv]; exact he)
      rw [hmod] at hnx
      rcases hnx with ⟨_, a2⟩ | ⟨y', j, f, a1, a2, a3, a4⟩
      · rw [a2] at e16
        rw [e16]
        exact zYt (by decide) (leaf v1 σ5 x5 hM5 hz)
      · rw [a4] at e16
        rw [e16]
        have hj := (List.getElem?_eq_some_iff.mp a2).1
        have cj : (nI j).toNatClampNeg = j := nI_clamp (by omega)
        have vj : vp_in (nI j) 900 := vp_in_nI (by omega) (by decide)
        have epp := zs_pp_st (x0 := x0) hVe hw a1
        rw [← a3] at epp
        rw [← epp] at hturn
        have hpf := zs_pp_lt k x0 f.1
        obtain ⟨o1, o2, o3, o4, _⟩ := zb_or0 _ hpf
        rw [cj]
        refine zYf (nI_pos (by omega)) ⟨vj, vj, ?_⟩
        rcases hM5 j f a2 with u | u
        · rcases hturn with t | t
          · rw [u, t]
            exact zYt (by decide) (leaf v1 σ5 x5 hM5 hz)
          · rw [u, t, o1]
            refine zYf o2 ⟨vj, vj, fun g19 h19 => ?_⟩
            have x19 : zx σ5 g19 [] [30] := by rw [h19]; exact zx.A 30 _ (by decide)
            have less : mez l g19 + 1 = mez l σ5 := by
              refine zcnt_upd hj (fun t' ht' hne => ?_) (decide_eq_true u) (decide_eq_false ?_)
              · rw [h19, zz_A2, if_pos rfl, pk_un hne]
              · rw [h19, zz_A2, if_pos rfl, pk_us]; exact o2
            refine leaf 1 g19 (x5.tr x19) (fun t' e' he' => ?_) (Or.inr ⟨rfl, by rcases hz with z | z <;> omega⟩)
            rw [h19, zz_A2, if_pos rfl]
            by_cases y2 : t' = j
            · rw [y2, a2] at he'
              cases he'
              rw [y2, pk_us]; exact Or.inr rfl
            · rw [pk_un y2]; exact hM5 t' e' he'
        · rcases hturn with t | t
          · rw [u, t, o4]
            exact zYt rfl (leaf v1 σ5 x5 hM5 hz)
          · rw [u, t, o3]
            exact zYt rfl (leaf v1 σ5 x5 hM5 hz)
end SC
